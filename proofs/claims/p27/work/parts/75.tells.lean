/-! the law looks at all fighters, the row and the counts -/
theorem cfn {M : MS} {z : Nat → Int32} {f n : Nat} (hS : SJ M z) (hf : f < zn z) (hn : n ≤ 13) : F_X4_fighter M (nI f) (nI n) = some (0, ztold z f n, M) := q_fighter hS hf hn
theorem cf2 {M : MS} {z : Nat → Int32} {f : Nat} (hS : SJ M z) (hf : f < zn z) : F_X4_fighter M (nI f) (2 : Int32) = some (0, zo z f 2, M) := cfn (n := 2) hS hf (by decide)
theorem cf5 {M : MS} {z : Nat → Int32} {f : Nat} (hS : SJ M z) (hf : f < zn z) : F_X4_fighter M (nI f) (5 : Int32) = some (0, zo z f 5, M) := cfn (n := 5) hS hf (by decide)
theorem cf1 {M : MS} {z : Nat → Int32} {f : Nat} (hS : SJ M z) (hf : f < zn z) : F_X4_fighter M (nI f) (1 : Int32) = some (0, zo z f 1, M) := cfn (n := 1) hS hf (by decide)
theorem cf6 {M : MS} {z : Nat → Int32} {f : Nat} (hS : SJ M z) (hf : f < zn z) : F_X4_fighter M (nI f) (6 : Int32) = some (0, nI (zpn z f), M) := cfn (n := 6) hS hf (by decide)
theorem cf7 {M : MS} {z : Nat → Int32} {f : Nat} (hS : SJ M z) (hf : f < zn z) : F_X4_fighter M (nI f) (7 : Int32) = some (0, zstat z f, M) := cfn (n := 7) hS hf (by decide)
theorem cf8 {M : MS} {z : Nat → Int32} {f k : Nat} (hS : SJ M z) (hf : f < zn z) (hk : k < 4) : F_X4_fighter M (nI f) ((8 : Int32) + nI k) = some (0, zo z f (11 + k), M) := by
  have h := cfn (n := 8 + k) hS hf (by omega)
  rw [nI_lit 8, nI_add, h]
  unfold ztold
  rw [if_neg (by omega), if_neg (by omega), if_neg (by omega), if_pos (by omega), show 11 + (8 + k - 8) = 11 + k by omega]
def T226 (z : Nat → Int32) (M : MS) (i : Nat) : Prop := rA M 226 0 = nI (zst z 0 i) ∧ rA M 226 1 = nI (zst z 1 i) ∧ rA M 226 2 = nI (zlf z 0 i) ∧ rA M 226 3 = nI (zlf z 1 i)
theorem zst_b {z : Nat → Int32} {s : Int32} : ∀ m, zst z s m ≤ m
  | 0 => Nat.le_refl _
  | m + 1 => by
    have := zst_b (z := z) (s := s) m
    rw [zst]
    split <;> omega
theorem zlf_b {z : Nat → Int32} {s : Int32} (hz : ZW z) : ∀ m, m ≤ zn z → zlf z s m ≤ 99 * m
  | 0, _ => Nat.le_refl _
  | m + 1, h => by
    have h1 := zlf_b (s := s) hz m (by omega)
    obtain ⟨l, hl, e⟩ := (hz.2.1 m (by omega)).2.1
    rw [zlf, e, nI_clamp (by omega)]
    split <;> omega
set_option maxHeartbeats 8000000 in
/-- one fighter counted -/
theorem tells_in {M : MS} {z : Nat → Int32} {tv : Int32} {i : Nat} {K : Int32 → Int32 → Int32 → MS → Option (Int32 × MS)} (hS : SJ M z) (h : LRt M z tv) (hz : ZW z) (h6 : zn z ≤ 6) (hi : i < zn z) (hT : T226 z M i) : ∃ M', (∀ d k kf, k + d = 4 → d < kf → F_L_tells_l186 (nI (zct (pdl z) i)) (nI (zct (prd z) i)) (nI i) K kf 1 (nI k) M = K (nI (zct (pdl z) (i + 1))) (nI (zct (prd z) (i + 1))) (nI (i + 1)) M') ∧ LRt M' z tv ∧ LF M M' ∧ T226 z M' (i + 1) := by
  obtain ⟨l, hl, el⟩ := (hz.2.1 i hi).2.1
  have hfw := hz.2.1 i hi
  have lv : ∀ M1, LRt M1 z tv → F_L_lives M1 (nI i) = some (if zo z i 2 = 0 then 0 else 1) := fun M1 h1 => lives_ok h1 hz h6 hi
  obtain ⟨t0, t1, t2, t3⟩ := hT
  have b0 := zst_b (z := z) (s := 0) i
  have b1 := zst_b (z := z) (s := 1) i
  have b2 := zlf_b (s := 0) hz i (by omega)
  have b3 := zlf_b (s := 1) hz i (by omega)
  have rl : rA M 220 (8 * i) = nI l := (h.1 i hi 0 (by decide)).trans el
  -- the sides
  have rest : ∃ M', (∀ x y : Int32, (bd0 (F_X4_fighter M (nI i) (0 : Int32)) fun r110 M109 => (gdb (inb r110 4) (bd (F_L_lives M109 (nI i)) fun r113 => (nm (fun (s114 : Int32) => (gdb (inb r110 4) (nm (wA M109 226 (Int32.toNatClampNeg r110) ((rA M109 226 (Int32.toNatClampNeg r110)) + s114)) fun M117 => (bd0 (F_X4_fighter M117 (nI i) (0 : Int32)) fun r120 M119 => (gdb (inb ((2 : Int32) + r120) 4) (gdb (inb ((8 : Int32) * nI i) 48) (gdb (inb ((2 : Int32) + r120) 4) (nm (wA M119 226 (Int32.toNatClampNeg ((2 : Int32) + r120)) ((rA M119 226 (Int32.toNatClampNeg ((2 : Int32) + r120))) + (rA M119 220 (Int32.toNatClampNeg ((8 : Int32) * nI i))))) fun M124 => (nm (nI i + (1 : Int32)) fun x125 => (K x y x125 M124)))))))))) fun j346_114 => (if r113 = 0 then (j346_114 (0 : Int32)) else (j346_114 (1 : Int32))))))) = K x y (nI (i + 1)) M') ∧ LRt M' z tv ∧ LF M M' ∧ T226 z M' (i + 1) := by
    obtain ⟨al, hal, eal⟩ : ∃ al : Nat, al ≤ 1 ∧ (if zo z i 2 = 0 then (0 : Int32) else 1) = nI al := by
      by_cases c : zo z i 2 = 0
      · exact ⟨0, by decide, by rw [if_pos c]; rfl⟩
      · exact ⟨1, by decide, by rw [if_neg c]; rfl⟩
    have ech : ∀ (J : Int32 → Option (Int32 × MS)), (nm J fun j346_114 => (if (if zo z i 2 = 0 then (0 : Int32) else 1) = 0 then (j346_114 (0 : Int32)) else (j346_114 (1 : Int32)))) = J (nI al) := by
      intro J
      rw [← eal, nm_k]
      by_cases c : zo z i 2 = 0
      · rw [if_pos c, if_pos rfl]
      · rw [if_neg c, if_neg (by decide)]
    have eas : ∀ s : Int32, zst z s (i + 1) = zst z s i + (if zo z i 0 = s then al else 0) := by
      intro s
      rw [zst]
      by_cases c : zo z i 2 = 0
      · rw [if_pos c] at eal
        have : al = 0 := by
          have := (nI_eq (a := 0) (b := al) (by decide) (by omega)).mp eal
          omega
        rw [if_neg (fun q => q.2 c), this]
        split <;> rfl
      · rw [if_neg c] at eal
        have : al = 1 := by
          have := (nI_eq (a := 1) (b := al) (by decide) (by omega)).mp eal
          omega
        by_cases c0 : zo z i 0 = s
        · rw [if_pos ⟨c0, c⟩, if_pos c0, this]
        · rw [if_neg (fun q => c0 q.1), if_neg c0, Nat.add_zero]
    have elf : ∀ s : Int32, zlf z s (i + 1) = zlf z s i + (if zo z i 0 = s then l else 0) := by
      intro s
      rw [zlf, el, nI_clamp (by omega)]
    rcases hfw.1 with e0 | e0
    · have lf : LF M (wA (wA M 226 0 (nI (zst z 0 i + al))) 226 2 (nI (zlf z 0 i + l))) := LF_trans (LF_A (by decide)) (LF_A (by decide))
      refine ⟨wA (wA M 226 0 (nI (zst z 0 i + al))) 226 2 (nI (zlf z 0 i + l)), fun x y => ?_, LRt_x (LRt_x h (by decide)) (by decide), lf, ?_, ?_, ?_, ?_⟩
      · rw [cf_0 hS SB_refl hi, bd0_s, e0, gdb_t (show inb (0 : Int32) 4 = true by decide), lv M h, bd_s, ech]
        try dsimp only
        rw [gdb_t (show inb (0 : Int32) 4 = true by decide), tn0, t0, nI_add, nm_k, cf_0 (SJ_LF hS (LF_A (by decide))) SB_refl hi, bd0_s, e0, show (2 : Int32) + 0 = 2 by decide, gdb_t (show inb (2 : Int32) 4 = true by decide), ix8, gdb_t (inb_nI (by omega) (by decide)), gdb_t (show inb (2 : Int32) 4 = true by decide), tn2, nI_clamp (by omega), rA_wA, upd_n (by decide), t2, rA_wAn (by decide), rl, nI_add, nm_k, nm_k, nI_1]
      · rw [rA_wA, upd_n (by decide), rA_wA, upd_s, eas, if_pos e0]
      · rw [rA_wA, upd_n (by decide), rA_wA, upd_n (by decide), eas, if_neg (by rw [e0]; decide)]; exact t1
      · rw [rA_wA, upd_s, elf, if_pos e0]
      · rw [rA_wA, upd_n (by decide), rA_wA, upd_n (by decide), elf, if_neg (by rw [e0]; decide)]; exact t3
    · have lf : LF M (wA (wA M 226 1 (nI (zst z 1 i + al))) 226 3 (nI (zlf z 1 i + l))) := LF_trans (LF_A (by decide)) (LF_A (by decide))
      refine ⟨wA (wA M 226 1 (nI (zst z 1 i + al))) 226 3 (nI (zlf z 1 i + l)), fun x y => ?_, LRt_x (LRt_x h (by decide)) (by decide), lf, ?_, ?_, ?_, ?_⟩
      · rw [cf_0 hS SB_refl hi, bd0_s, e0, gdb_t (show inb (1 : Int32) 4 = true by decide), lv M h, bd_s, ech]
        try dsimp only
        rw [gdb_t (show inb (1 : Int32) 4 = true by decide), tn1, t1, nI_add, nm_k, cf_0 (SJ_LF hS (LF_A (by decide))) SB_refl hi, bd0_s, e0, show (2 : Int32) + 1 = 3 by decide, gdb_t (show inb (3 : Int32) 4 = true by decide), ix8, gdb_t (inb_nI (by omega) (by decide)), gdb_t (show inb (3 : Int32) 4 = true by decide), tn3, nI_clamp (by omega), rA_wA, upd_n (by decide), t3, rA_wAn (by decide), rl, nI_add, nm_k, nm_k, nI_1]
      · rw [rA_wA, upd_n (by decide), rA_wA, upd_n (by decide), eas, if_neg (by rw [e0]; decide)]; exact t0
      · rw [rA_wA, upd_n (by decide), rA_wA, upd_s, eas, if_pos e0]
      · rw [rA_wA, upd_n (by decide), rA_wA, upd_n (by decide), elf, if_neg (by rw [e0]; decide)]; exact t2
      · rw [rA_wA, upd_s, elf, if_pos e0]
  obtain ⟨M', g1, g2, g3, g4⟩ := rest
  refine ⟨M', ?_, g2, g3, g4⟩
  intro d
  induction d with
  | zero =>
    intro k kf hk hkf
    obtain ⟨kf, rfl⟩ : ∃ q, kf = q + 1 := ⟨kf - 1, by omega⟩
    have : k = 4 := by omega
    subst this
    rw [F_L_tells_l186, if_pos (show (4 : Int32) ≤ nI 4 by decide), if_pos (show ¬ (1 : Int32) = 0 by decide), lv M h, bd_s, nm_k]
    by_cases c : zo z i 2 = 0
    · rw [if_pos c, if_pos rfl]
      try dsimp only
      rw [nm_k, bd_s, nm_k, if_pos rfl]
      try dsimp only
      rw [nm_k, Int32.add_zero, Int32.add_zero]
      have e1 : zct (pdl z) (i + 1) = zct (pdl z) i := by rw [zct, if_neg (by unfold pdl; simp [c])]
      have e2 : zct (prd z) (i + 1) = zct (prd z) i := by rw [zct, if_neg (by unfold prd; simp [c])]
      rw [e1, e2]
      exact g1 _ _
    · rw [if_neg c, if_neg (show ¬ (1 : Int32) = 0 by decide), ix83, gdb_t (inb_nI (by omega) (by decide)), nI_clamp (by omega), show rA M 220 (8 * i + 3) = zo z i 6 from h.1 i hi 3 (by decide)]
      try dsimp only
      rw [nm_k, bd_s, nm_k, if_neg (show ¬ (1 : Int32) = 0 by decide), ix84, gdb_t (inb_nI (by omega) (by decide)), nI_clamp (by omega), show rA M 220 (8 * i + 4) = zo z i 7 from h.1 i hi 4 (by decide)]
      have e1 : nI (zct (pdl z) i) + zo z i 6 = nI (zct (pdl z) (i + 1)) := by
        rw [zct]
        rcases hfw.2.2.2.2.2.1 with e | e
        · rw [e, Int32.add_zero, if_neg (by unfold pdl; simp [e])]
        · rw [e, nI_1, if_pos (by unfold pdl; simp [e, c])]
      rw [e1]
      rcases hfw.2.2.2.2.2.2.1 with ⟨e7, _⟩ | ⟨e7, _⟩
      · have e2 : zct (prd z) (i + 1) = zct (prd z) i := by rw [zct, if_neg (by unfold prd; simp [e7])]
        rw [e7, if_pos (by decide)]
        try dsimp only
        rw [nm_k, Int32.add_zero, e2]
        exact g1 _ _
      · have n7 : ¬ zo z i 7 = -1 := by rcases e7 with e | e <;> rw [e] <;> decide
        have e2 : zct (prd z) (i + 1) = zct (prd z) i + 1 := by rw [zct, if_pos (by unfold prd; simp [n7, c])]
        rw [if_neg (show ¬ zo z i 7 < 0 by rcases e7 with e | e <;> rw [e] <;> decide)]
        try dsimp only
        rw [nm_k, nI_1 (zct (prd z) i), e2]
        exact g1 _ _
  | succ d ih =>
    intro k kf hk hkf
    obtain ⟨kf, rfl⟩ : ∃ q, kf = q + 1 := ⟨kf - 1, by omega⟩
    have r1 : rA M 221 (4 * i + k) = zo z i (11 + k) := h.2.1 i hi k (by omega)
    have r2 : rA M 220 (8 * i + 4 + k) = zo z i (7 + k) := by
      have := h.1 i hi (4 + k) (by omega)
      rw [show 8 * i + 4 + k = 8 * i + (4 + k) by omega, this]
      unfold aw
      rw [if_neg (by omega), if_neg (by omega), if_neg (by omega), if_neg (by omega), show 4 + k + 3 = 7 + k by omega]
    rw [F_L_tells_l186, if_neg (show ¬ (4 : Int32) ≤ nI k from nI_ge (b := 4) (by omega) (by decide)), if_neg (show ¬ (1 : Int32) = 0 by decide), cf8 hS hi (by omega), bd0_s, ix4n, gdb_t (inb_nI (by omega) (by decide)), nI_clamp (by omega), r1, if_neg (fun q => q rfl), q_readied hS hi (by omega), bd0_s, ix84, nI_add, gdb_t (inb_nI (by omega) (by decide)), nI_clamp (by omega), r2, if_neg (fun q => q rfl), nm_k, nI_1]
    exact ih (k + 1) kf (by omega) (by omega)
