theorem stand93 {z : Nat → Int32} {b : Bool} {f c : Nat} (h6 : zn z ≤ 6) (hf : f < zn z) (hc : c < zn z) : ∀ d i k (M : MS), i + d = zn z → d < k → (∀ j, j < zn z → rA M 225 j = TG z b f c j) → (∀ j, j < i → rA M 222 j = TG z b f c j) → ∃ M', F_L_stand_l93 (nI (zn z)) (nI f) (nI c) k (nI i) M = some (wA M' 220 (8 * f + 2) (rA M' 220 (8 * c + 2))) ∧ (∀ j, j < zn z → rA M' 222 j = TG z b f c j) ∧ O1 222 M M' := by
  intro d
  induction d with
  | zero =>
    intro i k M hi hk h1 h2
    obtain ⟨k, rfl⟩ : ∃ q, k = q + 1 := ⟨k - 1, by omega⟩
    have e : i = zn z := by omega
    subst e
    rw [F_L_stand_l93, if_pos (nI_le (Nat.le_refl _) (by omega)), ix82, ix82, gdb_t (inb_nI (by omega) (by decide)), gdb_t (inb_nI (by omega) (by decide)), nI_clamp (by omega), nI_clamp (by omega), nm_k]
    exact ⟨M, rfl, h2, O1_refl⟩
  | succ d ih =>
    intro i k M hi hk h1 h2
    obtain ⟨k, rfl⟩ : ∃ q, k = q + 1 := ⟨k - 1, by omega⟩
    obtain ⟨M', g1, g2, g3⟩ := ih (i + 1) k (wA M 222 i (TG z b f c i)) (by omega) (by omega) (fun j hj => by rw [rA_wAn (by decide)]; exact h1 j hj) (fun j hj => by
      rw [rA_wA]
      by_cases e : j = i
      · rw [e, upd_s]
      · rw [upd_n e]; exact h2 j (by omega))
    refine ⟨M', ?_, g2, O1_trans O1_A g3⟩
    rw [F_L_stand_l93, if_neg (nI_ge (by omega) (by omega)), gdb_t (inb_nI (by omega) (by decide)), gdb_t (inb_nI (by omega) (by decide)), nI_clamp (by omega), h1 i (by omega), nm_k, nm_k, nI_1]
    exact g1
/-- another row -/
theorem LRt_row {M M1 : MS} {z z' : Nat → Int32} {tv : Int32} (h : LRt M z tv) (hn : zn z' = zn z) (ho : ∀ f w, w < 17 → zo z' f w = zo z f w) (hl : ∀ i, i < 6 → z' i = z i) (hr : ∀ j, j < zn z → rA M1 222 j = z' (6 + j)) (h1 : ∀ v, 220 ≤ v → v ≤ 223 → v ≠ 222 → rA M1 v = rA M v) : LRt M1 z' tv := by
  obtain ⟨a, b, c, d, e⟩ := h
  refine ⟨fun f hf i hi => ?_, fun f hf k hk => ?_, fun i hi => ?_, ?_, fun i i1 i5 => ?_⟩
  · rw [hn] at hf
    rw [h1 220 (by decide) (by decide) (by decide), ho f _ (aw_lt hi)]; exact a f hf i hi
  · rw [hn] at hf
    rw [h1 221 (by decide) (by decide) (by decide), ho f _ (by omega)]; exact b f hf k hk
  · rw [hn] at hi
    exact hr i hi
  · rw [h1 223 (by decide) (by decide) (by decide)]; exact d
  · have := tw_5 i1 i5
    rw [h1 223 (by decide) (by decide) (by decide), hl _ (by omega)]; exact e i i1 i5
/-- what a walk through those that are set off needs: the list, and its length -/
def KF (M M1 : MS) : Prop := rA M1 224 = rA M 224 ∧ rA M1 223 6 = rA M 223 6
theorem KF_refl {M : MS} : KF M M := ⟨rfl, rfl⟩
theorem KF_trans {M M1 M2 : MS} (h1 : KF M M1) (h2 : KF M1 M2) : KF M M2 := ⟨h2.1.trans h1.1, h2.2.trans h1.2⟩
theorem KF_A {M : MS} {v i : Nat} {x : Int32} (h : v ≠ 224 ∧ (v ≠ 223 ∨ i ≠ 6)) : KF M (wA M v i x) := by
  refine ⟨rA_wAn (Ne.symm h.1), ?_⟩
  rw [rA_wAi]
  by_cases c : 223 = v
  · rw [if_pos c, upd_n (by omega), c]
  · rw [if_neg c]
theorem KF_of {M M1 : MS} (h : ∀ v, 223 ≤ v → v ≤ 224 → rA M1 v = rA M v) : KF M M1 := ⟨h 224 (by decide) (by decide), by rw [h 223 (by decide) (by decide)]⟩
theorem stand_ok (b : Bool) {M : MS} {z : Nat → Int32} {tv : Int32} {f c : Nat} (h : LRt M z tv) (hz : ZW z) (h6 : zn z ≤ 6) (hf : f < zn z) (hc : c < zn z) (hne : f ≠ c) : ∃ M', F_L_stand M (nI (zn z)) (nI f) (nI c) (bi b) = some M' ∧ LRt M' (if b = true then zbehind z f c else zahead z f c) tv ∧ LF M M' ∧ KF M M' := by
  obtain ⟨p1, p2, p3⟩ := zpn_lt hz.1 hf
  obtain ⟨q1, q2, q3⟩ := zpn_lt hz.1 hc
  have hpq : zpn z f ≠ zpn z c := fun e => hne (by rw [← p3, ← q3, e])
  obtain ⟨k1, k2, k3⟩ := kk_f (zn z) (by omega) _ p1 _ q1 hpq
  obtain ⟨t1, t2, t3, t4⟩ := tt_f (zn z) (by omega) _ p1 _ q1 hpq
  have ht : tt b (zpn z f) (zpn z c) < zn z := by
    cases b
    · exact t2
    · exact t4
  obtain ⟨M1, a1, a2, a3⟩ := stand12 (b := b) hz.1 h6 hf hc hne (zn z) 0 FU (wZ M 225) (by omega) (by rw [FU_s]; omega) (fun j hj => by rw [rA_wZ, if_neg (by decide)]; exact h.2.2.1 j hj) (fun j hj => by rw [k2] at hj; omega)
  obtain ⟨M2, b1, b2, b3⟩ := stand93 (b := b) h6 hf hc (zn z) 0 FU M1 (by omega) (by rw [FU_s]; omega) a2 (fun j hj => by omega)
  have hp9 : zrow z (zpn z f) = f := p3
  obtain ⟨m1, m2, m3⟩ := Z0_mv hz.1 p1 ht
  rw [hp9] at m1 m2
  have hrow : ∀ v, v ≠ 222 → v ≠ 225 → rA M2 v = rA M v := fun v h1 h2 => by rw [b3.2.1 v h1, a3.2.1 v h2, rA_wZ, if_neg h2]
  have l1 : LRt M2 (zmv z (nI f) (zpn z f) (tt b (zpn z f) (zpn z c))) tv := LRt_row h m2 (fun g w _ => mv_o hz.1.2.1 p1 ht) (fun i hi => zmv_else p1 ht (Or.inl hi)) b2 (fun v h1 h2 h3 => hrow v h3 (by omega))
  have l2 : LRt (wA M2 220 (8 * f + 2) (zo z c 1)) (zl (zmv z (nI f) (zpn z f) (tt b (zpn z f) (zpn z c))) f 1 (zo z c 1)) tv := LRt_a (f := f) (j := 2) l1 m1 (by rw [m2]; exact hf) (by decide)
  have e2 : rA M2 220 (8 * c + 2) = zo z c 1 := by rw [hrow 220 (by decide) (by decide)]; exact h.1 c hc 2 (by decide)
  refine ⟨wA M2 220 (8 * f + 2) (zo z c 1), ?_, ?_, LF_trans (LF_trans (LF_trans (LF_Z (by decide)) (LF_O1 a3 (by decide))) (LF_O1 b3 (by decide))) (LF_A (by decide)), ?_⟩
  · rw [F_L_stand, nm_k]
    have a1' : F_L_stand_l12 (nI (zn z)) (nI f) (nI c) (bi b) FU 0 0 (wZ M 225) = F_L_stand_l93 (nI (zn z)) (nI f) (nI c) FU 0 M1 := by
      rw [k2] at a1; exact a1
    have b1' : F_L_stand_l93 (nI (zn z)) (nI f) (nI c) FU 0 M1 = some (wA M2 220 (8 * f + 2) (rA M2 220 (8 * c + 2))) := b1
    rw [a1', b1', e2]
  · cases b
    · exact l2
    · exact l2
  · exact KF_trans (KF_of (fun v h1 h2 => hrow v (by omega) (by omega))) (KF_A ⟨by decide, Or.inl (by decide)⟩)
/-- class and row of numbers agree in what no act changes -/
def SB (zc z : Nat → Int32) : Prop := zn zc = zn z ∧ ∀ g, g < zn z → zo zc g 0 = zo z g 0 ∧ zo zc g 3 = zo z g 3 ∧ zo zc g 4 = zo z g 4
theorem bd0_s {β : Type} {r : Int32} {M1 : MS} {k : Int32 → MS → Option β} : bd0 (some (0, r, M1)) k = k r M1 := rfl
theorem cf_0 {M : MS} {zc z : Nat → Int32} {g : Nat} (hS : SJ M zc) (hB : SB zc z) (hg : g < zn z) : F_X4_fighter M (nI g) (0 : Int32) = some (0, zo z g 0, M) := by
  have h := q_fighter (n := 0) hS (by rw [hB.1]; exact hg) (by decide)
  rw [← (hB.2 g hg).1]
  exact h
theorem cf_3 {M : MS} {zc z : Nat → Int32} {g : Nat} (hS : SJ M zc) (hB : SB zc z) (hg : g < zn z) : F_X4_fighter M (nI g) (3 : Int32) = some (0, zo z g 3, M) := by
  have h := q_fighter (n := 3) hS (by rw [hB.1]; exact hg) (by decide)
  rw [← (hB.2 g hg).2.1]
  exact h
theorem cf_4 {M : MS} {zc z : Nat → Int32} {g : Nat} (hS : SJ M zc) (hB : SB zc z) (hg : g < zn z) : F_X4_fighter M (nI g) (4 : Int32) = some (0, zo z g 4, M) := by
  have h := q_fighter (n := 4) hS (by rw [hB.1]; exact hg) (by decide)
  rw [← (hB.2 g hg).2.2]
  exact h
theorem absd : ∀ a, a ≤ 9 → ∀ b, b ≤ 9 → (if 0 ≤ nI b - nI a then nI b - nI a else 0 - (nI b - nI a)) = zap (nI a) (nI b) := by
  intro a ha b hb
  have e : (List.range 10).all (fun a => (List.range 10).all (fun b => decide ((if 0 ≤ nI b - nI a then nI b - nI a else 0 - (nI b - nI a)) = zap (nI a) (nI b)))) = true := by decide +kernel
  have h1 := List.all_eq_true.mp e a (List.mem_range.mpr (by omega))
  have h2 := List.all_eq_true.mp h1 b (List.mem_range.mpr (by omega))
  simpa using h2
theorem can_ok {M : MS} {zc z : Nat → Int32} {tv kd x : Int32} {f : Nat} (hS : SJ M zc) (hB : SB zc z) (h : LRt M z tv) (hz : ZW z) (h6 : zn z ≤ 6) (hf : f < zn z) (hx : xok z kd x) (hk : k4 kd) : F_L_can M (nI f) kd x = some ((if zpos z f kd x = true then 1 else 0), M) := by
  obtain ⟨a, ha, ea⟩ := (hz.2.1 f hf).2.2.2.2.1
  have ra : rA M 220 (8 * f + 1) = nI a := (h.1 f hf 1 (by decide)).trans ea
  have N1 : ¬ ¬ (1 : Int32) = 1 := fun q => q rfl
  rw [F_L_can]
  simp only [nm_k]
  rcases hx with ⟨k1, p, hp, e⟩ | ⟨k1, g, hg, e⟩
  · subst k1 e
    obtain ⟨s, hs, es⟩ := (hz.2.1 f hf).2.2.2.2.2.2.2 1 (by decide)
    have es' : zo z f 12 = nI s := es
    have rs : rA M 221 (4 * f + 1) = nI s := (h.2.1 f hf 1 (by decide)).trans es
    have hv : zpos z f 1 (nI p) = decide (¬ (if 0 < zo z f 12 then (1 : Int32) else 3) < zap (zo z f 5) (nI p)) := by unfold zpos; rw [if_pos rfl]
    have hd := absd a ha p hp
    rw [if_neg N1, ix81, gdb_t (inb_nI (by omega) (by decide)), nI_clamp (by omega), ra, hv, ea, es']
    have fin : ∀ X : Int32, X = zap (nI a) (nI p) → (if ¬ (1 : Int32) = 1 then (bd0 (F_X4_fighter M (nI f) (0 : Int32)) fun r8 M7 => (bd0 (F_X4_fighter M7 (nI p) (0 : Int32)) fun r11 M10 => (if ¬ r8 = r11 then (none : Option (Int32 × MS)) else none))) else (gdb (inb (((4 : Int32) * nI f) + (1 : Int32)) 24) (if (rA M 221 (Int32.toNatClampNeg (((4 : Int32) * nI f) + (1 : Int32)))) ≤ 0 then (if (3 : Int32) < X then (some ((0 : Int32), M)) else (some ((1 : Int32), M))) else (if (1 : Int32) < X then (some ((0 : Int32), M)) else (some ((1 : Int32), M)))))) = some ((if decide (¬ (if 0 < nI s then (1 : Int32) else 3) < zap (nI a) (nI p)) = true then 1 else 0), M) := by
      intro X hX
      rw [if_neg N1, ix41, gdb_t (inb_nI (by omega) (by decide)), nI_clamp (by omega), rs, hX]
      by_cases c : s = 0
      · rw [c, if_pos (by decide), if_neg (show ¬ (0 : Int32) < nI 0 by decide)]
        by_cases c2 : (3 : Int32) < zap (nI a) (nI p)
        · rw [if_pos c2, if_neg (by simpa using c2)]
        · rw [if_neg c2, if_pos (by simpa using c2)]
      · rw [if_neg (nI_nle (by omega) (by omega)), if_pos (show (0 : Int32) < nI s from nI_lt (a := 0) (by omega) (by omega))]
        by_cases c2 : (1 : Int32) < zap (nI a) (nI p)
        · rw [if_pos c2, if_neg (by simpa using c2)]
        · rw [if_neg c2, if_pos (by simpa using c2)]
    by_cases c0 : 0 ≤ nI p - nI a
    · rw [if_pos c0] at hd ⊢
      have h9 := fin _ hd
      rw [if_neg N1] at h9 ⊢
      exact h9
    · rw [if_neg c0] at hd ⊢
      have h9 := fin _ hd
      rw [if_neg N1] at h9 ⊢
      exact h9
  · subst e
    obtain ⟨a2, ha2, ea2⟩ := (hz.2.1 g hg).2.2.2.2.1
    have ra2 : rA M 220 (8 * g + 1) = nI a2 := (h.1 g hg 1 (by decide)).trans ea2
    have lv := lives_ok h hz h6 hg
    have gf : nI g = nI f ↔ g = f := nI_eq (by omega) (by omega)
    have hcl : (nI g).toNatClampNeg = g := nI_clamp (by omega)
    have hd := absd a ha a2 ha2
    -- behind the distance
    have fin : ∀ X : Int32, (¬ g = f → X = zap (zo z f 5) (zo z g 5)) → (if ¬ kd = (1 : Int32) then (bd0 (F_X4_fighter M (nI f) (0 : Int32)) fun r8 M7 => (bd0 (F_X4_fighter M7 (nI g) (0 : Int32)) fun r11 M10 => (if ¬ r8 = r11 then (if nI g = nI f then (some ((0 : Int32), M10)) else (bd (F_L_lives M10 (nI g)) fun r16 => (if r16 = 0 then (some ((0 : Int32), M10)) else (if ¬ kd = (3 : Int32) then (if (2 : Int32) < X then (some ((0 : Int32), M10)) else (if kd = 0 then (some ((1 : Int32), M10)) else (if (0 : Int32) = 0 then (some ((0 : Int32), M10)) else (some ((1 : Int32), M10))))) else (if ¬ (0 : Int32) = 0 then (some ((0 : Int32), M10)) else (some ((1 : Int32), M10))))))) else (if nI g = nI f then (some ((0 : Int32), M10)) else (bd (F_L_lives M10 (nI g)) fun r16 => (if r16 = 0 then (some ((0 : Int32), M10)) else (if ¬ kd = (3 : Int32) then (if (2 : Int32) < X then (some ((0 : Int32), M10)) else (if kd = 0 then (some ((1 : Int32), M10)) else (if (1 : Int32) = 0 then (some ((0 : Int32), M10)) else (some ((1 : Int32), M10))))) else (if ¬ (1 : Int32) = 0 then (some ((0 : Int32), M10)) else (some ((1 : Int32), M10)))))))))) else (none : Option (Int32 × MS))) = some ((if zpos z f kd (nI g) = true then 1 else 0), M) := by
      intro X hX
      rw [if_pos k1, cf_0 hS hB hf, bd0_s, cf_0 hS hB hg, bd0_s]
      by_cases c1 : g = f
      · have hv : zpos z f kd (nI g) = false := by unfold zpos; rw [if_neg k1, if_pos (gf.mpr c1)]
        rw [hv]
        by_cases c2 : zo z f 0 = zo z g 0
        · rw [if_neg (fun q => q c2), if_pos (gf.mpr c1)]; rfl
        · rw [if_pos c2, if_pos (gf.mpr c1)]; rfl
      rw [hX c1]
      by_cases c3 : zo z g 2 = 0
      · have hv : zpos z f kd (nI g) = false := by unfold zpos; rw [if_neg k1, if_neg (fun q => c1 (gf.mp q)), hcl, if_pos c3]
        rw [hv]
        rw [if_pos c3] at lv
        by_cases c2 : zo z f 0 = zo z g 0
        · rw [if_neg (fun q => q c2), if_neg (fun q => c1 (gf.mp q)), lv, bd_s, if_pos rfl]; rfl
        · rw [if_pos c2, if_neg (fun q => c1 (gf.mp q)), lv, bd_s, if_pos rfl]; rfl
      rw [if_neg c3] at lv
      have hv : zpos z f kd (nI g) = (if kd = 0 then decide (¬ 2 < zap (zo z f 5) (zo z g 5)) else if kd = 2 then decide (zo z f 0 = zo z g 0) && decide (¬ 2 < zap (zo z f 5) (zo z g 5)) else decide (¬ zo z f 0 = zo z g 0)) := by
        unfold zpos
        rw [if_neg k1, if_neg (fun q => c1 (gf.mp q)), hcl, if_neg c3]
      rw [hv]
      have n10 : ¬ (1 : Int32) = 0 := by decide
      by_cases c2 : zo z f 0 = zo z g 0
      · rw [if_neg (fun q => q c2), if_neg (fun q => c1 (gf.mp q)), lv, bd_s, if_neg n10]
        rcases hk with e | e | e | e
        · rw [e, if_pos (show ¬ (0 : Int32) = 3 by decide), if_pos rfl, if_pos rfl]
          by_cases c4 : (2 : Int32) < zap (zo z f 5) (zo z g 5)
          · rw [if_pos c4, if_neg (by simpa using c4)]
          · rw [if_neg c4, if_pos (by simpa using c4)]
        · exact absurd e k1
        · rw [e, if_pos (show ¬ (2 : Int32) = 3 by decide), if_neg (show ¬ (2 : Int32) = 0 by decide), if_neg n10, if_neg (show ¬ (2 : Int32) = 0 by decide), if_pos rfl]
          by_cases c4 : (2 : Int32) < zap (zo z f 5) (zo z g 5)
          · rw [if_pos c4, if_neg (by simp [c4])]
          · rw [if_neg c4, if_pos (by simp [c2, c4])]
        · rw [e, if_neg (show ¬ ¬ (3 : Int32) = 3 from fun q => q rfl), if_pos n10, if_neg (show ¬ (3 : Int32) = 0 by decide), if_neg (show ¬ (3 : Int32) = 2 by decide), if_neg (by simp [c2])]
      · rw [if_pos c2, if_neg (fun q => c1 (gf.mp q)), lv, bd_s, if_neg n10]
        rcases hk with e | e | e | e
        · rw [e, if_pos (show ¬ (0 : Int32) = 3 by decide), if_pos rfl, if_pos rfl]
          by_cases c4 : (2 : Int32) < zap (zo z f 5) (zo z g 5)
          · rw [if_pos c4, if_neg (by simpa using c4)]
          · rw [if_neg c4, if_pos (by simpa using c4)]
        · exact absurd e k1
        · rw [e, if_pos (show ¬ (2 : Int32) = 3 by decide), if_neg (show ¬ (2 : Int32) = 0 by decide), if_pos rfl, if_neg (show ¬ (2 : Int32) = 0 by decide), if_pos rfl]
          by_cases c4 : (2 : Int32) < zap (zo z f 5) (zo z g 5)
          · rw [if_pos c4, if_neg (by simp [c4])]
          · rw [if_neg c4, if_neg (by simp [c2])]
        · rw [e, if_neg (show ¬ ¬ (3 : Int32) = 3 from fun q => q rfl), if_neg (show ¬ ¬ (0 : Int32) = 0 from fun q => q rfl), if_neg (show ¬ (3 : Int32) = 0 by decide), if_neg (show ¬ (3 : Int32) = 2 by decide), if_pos (by simp [c2])]
    rw [if_pos k1]
    by_cases c1 : g = f
    · rw [if_neg (fun q => q (gf.mpr c1)), if_pos (show (0 : Int32) ≤ 99 by decide)]
      have h9 := fin 99 (fun q => absurd c1 q)
      rw [if_pos k1] at h9 ⊢
      exact h9
    · rw [if_pos (fun q => c1 (gf.mp q)), ix81, gdb_t (inb_nI (by omega) (by decide)), ix81, gdb_t (inb_nI (by omega) (by decide)), nI_clamp (by omega), nI_clamp (by omega), ra, ra2]
      rw [← ea, ← ea2] at hd
      rw [← ea, ← ea2]
      by_cases c0 : 0 ≤ zo z g 5 - zo z f 5
      · rw [if_pos c0] at hd ⊢
        have h9 := fin _ (fun _ => hd)
        rw [if_pos k1] at h9 ⊢
        exact h9
      · rw [if_neg c0] at hd ⊢
        have h9 := fin _ (fun _ => hd)
        rw [if_pos k1] at h9 ⊢
        exact h9
