theorem cc1 {M : MS} {z : Nat → Int32} (hS : SJ M z) : F_X4_count M (1 : Int32) = some (0, z 1, M) := q_count (n := 1) hS (by decide)
theorem cc2 {M : MS} {z : Nat → Int32} (hS : SJ M z) : F_X4_count M (2 : Int32) = some (0, z 2, M) := q_count (n := 2) hS (by decide)
theorem cc3 {M : MS} {z : Nat → Int32} (hS : SJ M z) : F_X4_count M (3 : Int32) = some (0, nI (zst z 0 (zn z)), M) := q_count (n := 3) hS (by decide)
theorem cc4 {M : MS} {z : Nat → Int32} (hS : SJ M z) : F_X4_count M (4 : Int32) = some (0, nI (zst z 1 (zn z)), M) := q_count (n := 4) hS (by decide)
theorem cc5 {M : MS} {z : Nat → Int32} (hS : SJ M z) : F_X4_count M (5 : Int32) = some (0, nI (zct (pdl z) (zn z)), M) := q_count (n := 5) hS (by decide)
theorem cc6 {M : MS} {z : Nat → Int32} (hS : SJ M z) : F_X4_count M (6 : Int32) = some (0, nI (zct (prd z) (zn z)), M) := q_count (n := 6) hS (by decide)
theorem cc7 {M : MS} {z : Nat → Int32} (hS : SJ M z) : F_X4_count M (7 : Int32) = some (0, z 3, M) := q_count (n := 7) hS (by decide)
theorem cc8 {M : MS} {z : Nat → Int32} (hS : SJ M z) : F_X4_count M (8 : Int32) = some (0, z 4, M) := q_count (n := 8) hS (by decide)
theorem cc9 {M : MS} {z : Nat → Int32} (hS : SJ M z) : F_X4_count M (9 : Int32) = some (0, z 5, M) := q_count (n := 9) hS (by decide)
theorem cc10 {M : MS} {z : Nat → Int32} (hS : SJ M z) : F_X4_count M (10 : Int32) = some (0, nI (zlf z 0 (zn z)), M) := q_count (n := 10) hS (by decide)
theorem cc11 {M : MS} {z : Nat → Int32} (hS : SJ M z) : F_X4_count M (11 : Int32) = some (0, nI (zlf z 1 (zn z)), M) := q_count (n := 11) hS (by decide)
theorem i40 : inb (0 : Int32) 4 = true := by decide
theorem i41 : inb (1 : Int32) 4 = true := by decide
theorem i42 : inb (2 : Int32) 4 = true := by decide
theorem i43 : inb (3 : Int32) 4 = true := by decide
theorem nn1 {x : Int32} : ¬ ¬ x = x := fun q => q rfl
set_option maxHeartbeats 8000000 in
theorem tells_l {z : Nat → Int32} (hz : ZW z) (h6 : zn z ≤ 6) : ∀ d i k (M : MS), i + d = zn z → d < k → SJ M z → LRt M z (z 2) → T226 z M i → ∃ M', F_L_tells_l20 (nI (zn z)) k (nI (zct (pdl z) i)) (nI (zct (prd z) i)) (nI i) M = some (1, M') ∧ LRt M' z (z 2) ∧ LF M M' := by
  intro d
  induction d with
  | zero =>
    intro i k M hi hk hS h hT
    obtain ⟨k, rfl⟩ : ∃ q, k = q + 1 := ⟨k - 1, by omega⟩
    have e : i = zn z := by omega
    subst e
    obtain ⟨t0, t1, t2, t3⟩ := hT
    have h1 : rA M 223 1 = z 1 := h.2.2.2.2 1 (by decide) (by decide)
    have h2 : rA M 223 2 = z 3 := h.2.2.2.2 2 (by decide) (by decide)
    have h3 : rA M 223 3 = z 4 := h.2.2.2.2 3 (by decide) (by decide)
    have h4 : rA M 223 4 = z 5 := h.2.2.2.2 4 (by decide) (by decide)
    have hr : F_X4_inRow M (nI (zn z)) = some (0, -1, M) := by
      rw [q_inRow hS (by omega), if_neg (Nat.lt_irrefl _)]
    have hall : nI (zlf z 0 (zn z)) + nI (zlf z 1 (zn z)) = nI (zall2 z) := nI_add _ _
    have hle := zall2_le hz
    have fin : (nm (fun (s25 : UInt64) => (if ¬ (Op.cmpValue (FP.dcmp (zshare z) s25) .l) = 0 then (some ((0 : Int32), M)) else (some ((1 : Int32), M)))) fun j570_25 => (if ¬ nI (zlf z 0 (zn z)) + nI (zlf z 1 (zn z)) = 0 then (gdb (inb (2 : Int32) 4) (gdb (inb (2 : Int32) 4) (gdb (inb (3 : Int32) 4) (gdb (nnb (FP.ddiv (FP.i2d (nI (zlf z 0 (zn z)))) (FP.i2d (nI (zlf z 0 (zn z)) + nI (zlf z 1 (zn z)))))) (j570_25 (FP.ddiv (FP.i2d (nI (zlf z 0 (zn z)))) (FP.i2d (nI (zlf z 0 (zn z)) + nI (zlf z 1 (zn z)))))))))) else (j570_25 (4602678819172646912 : UInt64)))) = some ((1 : Int32), M) := by
      have hcmp : (Op.cmpValue (FP.dcmp (zshare z) (zshare z)) .l) = 0 := by rw [share_cmp hz]; rfl
      rw [nm_k, hall]
      by_cases c : zall2 z = 0
      · have es : zshare z = 4602678819172646912 := by unfold zshare; rw [if_pos c]
        rw [if_neg (show ¬ ¬ nI (zall2 z) = 0 by rw [c]; decide), ← es]
        try dsimp only
        rw [if_neg (fun q => q hcmp)]
      · have es : FP.ddiv (FP.i2d (nI (zlf z 0 (zn z)))) (FP.i2d (nI (zall2 z))) = zshare z := by unfold zshare; rw [if_neg c]
        rw [if_pos (nI_ne0 (by omega) (by omega)), gdb_t i42, gdb_t i42, gdb_t i43, es, gdb_t (share_nn hz)]
        try dsimp only
        rw [if_neg (fun q => q hcmp)]
    refine ⟨M, ?_, h, LF_refl⟩
    rw [F_L_tells_l20, if_pos (nI_le (Nat.le_refl _) (by omega)), cc1 hS, bd0_s, g71, tn1, h1, nm_k, if_neg nn1, cc2 hS, bd0_s, g70, tn0, h.2.2.2.1, if_neg nn1, cc3 hS, bd0_s, gdb_t i40, t0, if_neg nn1, cc4 hS, bd0_s, gdb_t i41, t1, if_neg nn1, cc5 hS, bd0_s, if_neg nn1, cc6 hS, bd0_s, if_neg nn1, cc7 hS, bd0_s, g72, tn2, h2, if_neg nn1, cc8 hS, bd0_s, g73, tn3, h3, if_neg nn1, cc9 hS, bd0_s, g74, tn4, h4, if_neg nn1, cc10 hS, bd0_s, gdb_t i42, t2, if_neg nn1, cc11 hS, bd0_s, gdb_t i43, t3, if_neg nn1]
    try dsimp only
    rw [if_neg (show ¬ (1 : Int32) = 0 by decide), hr, bd0_s, if_neg nn1, q_standing hS, bd_s, gdb_t i42, gdb_t i43]
    try rw [tn2]
    try rw [tn3]
    try rw [t2]
    try rw [t3]
    exact fin
  | succ d ih =>
    intro i k M hi hk hS h hT
    obtain ⟨k, rfl⟩ : ∃ q, k = q + 1 := ⟨k - 1, by omega⟩
    have hin : i < zn z := by omega
    obtain ⟨p1, p2, p3⟩ := zpn_lt hz.1 hin
    have hfw := hz.2.1 i hin
    have q0 : rA M 220 (8 * i) = zo z i 2 := h.1 i hin 0 (by decide)
    have q1 : rA M 220 (8 * i + 1) = zo z i 5 := h.1 i hin 1 (by decide)
    have q2 : rA M 220 (8 * i + 2) = zo z i 1 := h.1 i hin 2 (by decide)
    have q3 : rA M 220 (8 * i + 3) = zo z i 6 := h.1 i hin 3 (by decide)
    have q4 : rA M 220 (8 * i + 4) = zo z i 7 := h.1 i hin 4 (by decide)
    have hr : F_X4_inRow M (nI (zpn z i)) = some (0, nI i, M) := by
      rw [q_inRow hS (by omega), if_pos p1, (hz.1.2.2.1 _ p1).1, p3]
    have hst : ∀ (J : Int32 → Option (Int32 × MS)), (nm J fun j74_84 => (if ¬ (if zo z i 2 = 0 then (0 : Int32) else 1) = 0 then (gdb (inb (((8 : Int32) * nI i) + (3 : Int32)) 48) (if ¬ (rA M 220 (Int32.toNatClampNeg (((8 : Int32) * nI i) + (3 : Int32)))) = (1 : Int32) then (gdb (inb (((8 : Int32) * nI i) + (4 : Int32)) 48) (if (rA M 220 (Int32.toNatClampNeg (((8 : Int32) * nI i) + (4 : Int32)))) < 0 then (j74_84 (0 : Int32)) else (j74_84 (2 : Int32)))) else (j74_84 (1 : Int32)))) else (j74_84 (3 : Int32)))) = J (zstat z i) := by
      intro J
      unfold zstat
      rw [nm_k]
      by_cases c : zo z i 2 = 0
      · rw [if_pos c, if_neg nn1, if_pos c]
      · rw [if_neg c, if_pos (show ¬ (1 : Int32) = 0 by decide), if_neg c, ix83, gdb_t (inb_nI (by omega) (by decide)), nI_clamp (by omega), q3]
        by_cases c6 : zo z i 6 = 1
        · rw [if_neg (fun q => q c6), if_pos c6]
        · rw [if_pos c6, if_neg c6, ix84, gdb_t (inb_nI (by omega) (by decide)), nI_clamp (by omega), q4]
          rcases hfw.2.2.2.2.2.2.1 with ⟨e7, _⟩ | ⟨e7, _⟩
          · rw [e7, if_pos (by decide), if_pos rfl]
          · have n7 : ¬ zo z i 7 = -1 := by rcases e7 with e | e <;> rw [e] <;> decide
            rw [if_neg (show ¬ zo z i 7 < 0 by rcases e7 with e | e <;> rw [e] <;> decide), if_neg n7]
    obtain ⟨M1, a1, a2, a3, a4⟩ := tells_in (K := fun zz0 zz1 zz2 zz3 => F_L_tells_l20 (nI (zn z)) k zz0 zz1 zz2 zz3) hS h hz h6 hin hT
    obtain ⟨M2, b1, b2, b3⟩ := ih (i + 1) k M1 (by omega) (by omega) (SJ_LF hS a3) a2 a4
    refine ⟨M2, ?_, b2, LF_trans a3 b3⟩
    rw [F_L_tells_l20, if_neg (nI_ge (by omega) (by omega)), lives_ok h hz h6 hin, bd_s, hst]
    try dsimp only
    rw [cf2 hS hin, bd0_s, ix8, gdb_t (inb_nI (by omega) (by decide)), nI_clamp (n := 8 * i) (by omega), q0, nm_k, if_neg nn1, cf5 hS hin, bd0_s, ← ix8, ix81, gdb_t (inb_nI (by omega) (by decide)), nI_clamp (n := 8 * i + 1) (by omega), q1, if_neg nn1, cf1 hS hin, bd0_s, ix82, gdb_t (inb_nI (by omega) (by decide)), nI_clamp (n := 8 * i + 2) (by omega), q2, if_neg nn1, cf6 hS hin, bd0_s, rank_ok h hz.1 h6 hin, bd_s, if_neg nn1, cf7 hS hin, bd0_s, if_neg nn1, rank_ok h hz.1 h6 hin, bd_s, hr, bd0_s, if_neg nn1]
    try dsimp only
    have a1' := a1 4 0 8 (by omega) (by omega)
    exact a1'.trans b1
theorem tells_ok {M : MS} {z : Nat → Int32} (hS : SJ M z) (h : LRt M z (z 2)) (h6 : zn z ≤ 6) : ∃ M', F_L_tells M = some (1, M') ∧ LRt M' z (z 2) ∧ LF M M' := by
  obtain ⟨hz, _⟩ := SJ_z hS
  have lf : LF M (wZ M 226) := LF_Z (by decide)
  have hT : T226 z (wZ M 226) 0 := ⟨by rw [rA_wZ, if_pos rfl]; rfl, by rw [rA_wZ, if_pos rfl]; rfl, by rw [rA_wZ, if_pos rfl]; rfl, by rw [rA_wZ, if_pos rfl]; rfl⟩
  obtain ⟨M', a1, a2, a3⟩ := tells_l hz h6 (zn z) 0 8 (wZ M 226) (by omega) (by omega) (SJ_LF hS lf) (LRt_Z h (by decide)) hT
  refine ⟨M', ?_, a2, LF_trans lf a3⟩
  rw [F_L_tells, g75, tn5, h.2.2.2.2 5 (by decide) (by decide), show z (tw 5) = z 0 from rfl, hz.1.1, nm_k, nm_k]
  exact a1
