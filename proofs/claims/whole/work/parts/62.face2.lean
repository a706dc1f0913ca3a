/-! the calls that look -/
theorem s_fighter (a w : Int32) : SOK (fun M => F_X4_fighter M a w) [(3, (1 : Int32)), (1, (2 : Int32))] (fun M => F_X5_fighter M a w) := by
  refine sok_of (fun z m sv t b hp hb => ?_)
  obtain ⟨hz, ht, _⟩ := id hp
  by_cases hf : isf z a = true
  · obtain ⟨g, hg, e⟩ := isf_n hz.1 hf
    by_cases hw : wi w 0 13 = true
    · obtain ⟨n, _, hn, en⟩ := wi_n (l := 0) (h := 13) hw (by decide) (by decide)
      refine go_look (ztold z g n) hp hb (fun M h => ?_) (fun M h => ?_)
      · try dsimp only
        rw [F_X4_fighter, rqF1 h.1 hf, isW_t hw, bd_s, rqA1, e, en, prop_l h.1 hz hg hn, bd_s]
      · try dsimp only
        rw [F_X5_fighter, mF_t h.1 hz.1 hf, bd_s, nm_k, if_pos (by decide), in_t hw, bd_s, if_neg (by decide)]
        try dsimp only
        rw [nm_k, th_0, e, en, told_eq (M := wF M 80 220 0) (f := g) (w := n) (by rw [rA_wF, h.1]; exact hz.1) (by rw [rA_wF, h.1]; exact hg) hn, bd_s, rA_wF, h.1]
    · refine go_thr 1 2 hp hb (fun M h => ?_) (fun M h => ?_) (by decide) (by decide) (by decide)
      · try dsimp only
        rw [F_X4_fighter, rqF1 h.1 hf, isW_f hw, bd_s, rqA0]
      · try dsimp only
        rw [F_X5_fighter, mF_t h.1 hz.1 hf, bd_s, nm_k, if_pos (by decide), in_f hw, bd_s, if_pos rfl]
        try dsimp only
        rw [nm_k, th_2]
  · refine go_thr 3 1 hp hb (fun M h => ?_) (fun M h => ?_) (by decide) (by decide) (by decide)
    · try dsimp only
      rw [F_X4_fighter, rqF0 h.1 hf]
    · try dsimp only
      rw [F_X5_fighter, mF_f h.1 hf, bd_s, nm_k, if_neg (by decide)]
      try dsimp only
      rw [nm_k, th_1]
theorem s_readied (a w : Int32) : SOK (fun M => F_X4_readied M a w) [(3, (1 : Int32)), (1, (2 : Int32))] (fun M => F_X5_readied M a w) := by
  refine sok_of (fun z m sv t b hp hb => ?_)
  obtain ⟨hz, ht, _⟩ := id hp
  have hb10 := hz.1.2.1
  by_cases hf : isf z a = true
  · obtain ⟨g, hg, e⟩ := isf_n hz.1 hf
    by_cases hw : wi w 0 3 = true
    · obtain ⟨n, _, hn, en⟩ := wi_n (l := 0) (h := 3) hw (by decide) (by decide)
      have hx : (7 : Int32) + nI n = nI (7 + n) := by rw [nI_lit 7, nI_add]
      refine go_look (zo z g (7 + n)) hp hb (fun M h => ?_) (fun M h => ?_)
      · try dsimp only
        rw [F_X4_readied, rqF1 h.1 hf, isW_t hw, bd_s, rqA1, e, en, at_l hz.1 h.1 hg, bd_s, ofr_l h.1 hg hn, bd_s]
      · try dsimp only
        rw [F_X5_readied, mF_t h.1 hz.1 hf, bd_s, nm_k, if_pos (by decide), in_t hw, bd_s, if_neg (by decide)]
        try dsimp only
        rw [nm_k, th_0, e, en, of_eq (f := g) (w := 7 + n) (by omega) (by omega) hx, bd_s, rA_wF, h.1]
    · refine go_thr 1 2 hp hb (fun M h => ?_) (fun M h => ?_) (by decide) (by decide) (by decide)
      · try dsimp only
        rw [F_X4_readied, rqF1 h.1 hf, isW_f hw, bd_s, rqA0]
      · try dsimp only
        rw [F_X5_readied, mF_t h.1 hz.1 hf, bd_s, nm_k, if_pos (by decide), in_f hw, bd_s, if_pos rfl]
        try dsimp only
        rw [nm_k, th_2]
  · refine go_thr 3 1 hp hb (fun M h => ?_) (fun M h => ?_) (by decide) (by decide) (by decide)
    · try dsimp only
      rw [F_X4_readied, rqF0 h.1 hf]
    · try dsimp only
      rw [F_X5_readied, mF_f h.1 hf, bd_s, nm_k, if_neg (by decide)]
      try dsimp only
      rw [nm_k, th_1]
theorem s_inRow (a : Int32) : SOK (fun M => F_X4_inRow M a) [(1, (1 : Int32))] (fun M => F_X5_inRow M a) := by
  refine sok_of (fun z m sv t b hp hb => ?_)
  obtain ⟨hz, ht, _⟩ := id hp
  have hb10 := hz.1.2.1
  by_cases ha : a < 0
  · refine go_thr 1 1 hp hb (fun M h => ?_) (fun M h => ?_) (by decide) (by decide) (by decide)
    · try dsimp only
      rw [F_X4_inRow, nm_k, if_pos ha]
      try dsimp only
      rw [rqA0]
    · try dsimp only
      rw [F_X5_inRow, nm_k, if_neg (Int32.not_le.mpr ha)]
      try dsimp only
      rw [nm_k, th_1]
  · obtain ⟨i, hi, e⟩ := nI_of ha
    refine go_look (if i < zn z then z (6 + i) else -1) hp hb (fun M h => ?_) (fun M h => ?_)
    · try dsimp only
      rw [F_X4_inRow, nm_k, if_neg ha]
      try dsimp only
      rw [rqA1, e]
      by_cases q : i < zn z
      · rw [if_pos q, nat_l hz.1 h.1 q, bd_s]
      · rw [if_neg q, nat_no h.1 (by rw [hz.1.1]; exact nI_le (by omega) hi), bd_s]
    · try dsimp only
      rw [F_X5_inRow, nm_k, if_pos (Int32.not_lt.mp ha)]
      try dsimp only
      rw [nm_k, th_0, e]
      by_cases q : i < zn z
      · rw [if_pos q, mrow_l (M := wF M 80 220 0) (by rw [rA_wF, h.1]; exact hz.1) (by rw [rA_wF, h.1]; exact q), bd_s, rA_wF, h.1]
      · rw [if_neg q, mrow_no (M := wF M 80 220 0) (by rw [rA_wF, h.1, hz.1.1]; exact nI_le (by omega) hi), bd_s]
theorem s_count (w : Int32) : SOK (fun M => F_X4_count M w) [(1, (1 : Int32))] (fun M => F_X5_count M w) := by
  refine sok_of (fun z m sv t b hp hb => ?_)
  obtain ⟨hz, ht, _⟩ := id hp
  by_cases hw : wi w 0 12 = true
  · obtain ⟨n, _, hn, en⟩ := wi_n (l := 0) (h := 12) hw (by decide) (by decide)
    refine go_look (zcount z (nI m) n) hp hb (fun M h => ?_) (fun M h => ?_)
    · try dsimp only
      rw [F_X4_count, isW_t hw, bd_s, rqA1, en, ccount_l h.1 hz hn, bd_s, h.2.1]
    · try dsimp only
      rw [F_X5_count, in_t hw, bd_s, nm_k, if_neg (by decide)]
      try dsimp only
      rw [nm_k, th_0, en, mcount_eq (M := wF M 80 220 0) (by rw [rA_wF, h.1]; exact hz) hn, bd_s, rA_wF, h.1, rF_wF, if_neg (by decide), h.2.1]
  · refine go_thr 1 1 hp hb (fun M h => ?_) (fun M h => ?_) (by decide) (by decide) (by decide)
    · try dsimp only
      rw [F_X4_count, isW_f hw, bd_s, rqA0]
    · try dsimp only
      rw [F_X5_count, in_f hw, bd_s, nm_k, if_pos rfl]
      try dsimp only
      rw [nm_k, th_1]
/-- a look that the model does aside -/
theorem MOK_LQ {z : Nat → Int32} {m t : Nat} {sv : Nat → Nat → Int32} {b : Nat → Int32} {M M2 : MS} (h : MI M z m sv t b) (h2 : LQ (wF M 80 220 0) M2) : MI M2 z m sv t b ∧ CPart M M2 ∧ rF M2 80 220 = nI 0 := by
  refine ⟨MI_LQ (MI_80 (by decide) h) h2, CPart_trans CPart_80 (CPart_LQ h2), ?_⟩
  rw [h2.1 80 220 (by omega), rF_self]
  rfl
theorem cie_l {M0 : MS} {z : Nat → Int32} {R : Nat → Int32} {n : Nat} (hz : ZW z) (ht : TH z) (hn : n ≤ 40) : ∀ d i k (M : MS), i + d = n → d < k → CR M0 27 R M (zes z i) → ∃ M', F_X4_ifEnded_l23 (nI n) k (nI i) M = some (0, zes z n 2, M') ∧ CR M0 27 R M' (zes z n) := by
  intro d
  induction d with
  | zero =>
    intro i k M hi hk h
    obtain ⟨k, rfl⟩ : ∃ q, k = q + 1 := ⟨k - 1, by omega⟩
    have : i = n := by omega
    subst this
    rw [F_X4_ifEnded_l23, if_pos (nI_le (Nat.le_refl _) (by omega)), show rF M 54 27 = zes z i 2 from h.2.1.1.2.2.1]
    exact ⟨M, rfl, h⟩
  | succ d ih =>
    intro i k M hi hk h
    obtain ⟨k, rfl⟩ : ∃ q, k = q + 1 := ⟨k - 1, by omega⟩
    obtain ⟨M2, g1, g2⟩ := cends_l hz ht h
    rw [F_X4_ifEnded_l23, if_neg (nI_ge (by omega) (by omega)), g1, bd_s, nm_k, nI_1]
    exact ih (i + 1) k M2 (by omega) (by omega) g2
theorem s_ifEnded (a : Int32) : SOK (fun M => F_X4_ifEnded M a) [(1, (1 : Int32))] (fun M => F_X5_ifEnded M a) := by
  refine sok_of (fun z m sv t b hp hb => ?_)
  obtain ⟨hz, ht, _⟩ := id hp
  by_cases hw : wi a 0 40 = true
  · obtain ⟨n, _, hn, en⟩ := wi_n (l := 0) (h := 40) hw (by decide) (by decide)
    refine go_ok (r := zes z n 2) (fun M h => ?_) (fun M h => ?_) hp hb
    · try dsimp only
      obtain ⟨M3, g1, g2⟩ := scr_eq h hp
      obtain ⟨M', k1, k2⟩ := cie_l hz ht hn n 0 FU M3 (by omega) (by rw [FU_s]; omega) g2
      rw [F_X4_ifEnded, isW_t hw, bd_s, rqA1, g1, bd_s, en]
      exact ⟨M', k1, CI_scr h hp k2, MPart_CFR k2.2.2.1 (by decide)⟩
    · try dsimp only
      obtain ⟨M2, g1, g2⟩ := mwe_eq (M := wF M 80 220 0) (n := n) (by rw [rA_wF, h.1]; exact hz) (by rw [rA_wF, h.1]; exact ht) hn
      rw [rA_wF, h.1] at g1
      rw [F_X5_ifEnded, in_t hw, bd_s, nm_k, if_neg (by decide)]
      try dsimp only
      rw [nm_k, th_0, en, g1, bd2_s]
      exact ⟨M2, rfl, MOK_LQ h g2⟩
  · refine go_thr 1 1 hp hb (fun M h => ?_) (fun M h => ?_) (by decide) (by decide) (by decide)
    · try dsimp only
      rw [F_X4_ifEnded, isW_f hw, bd_s, rqA0]
    · try dsimp only
      rw [F_X5_ifEnded, in_f hw, bd_s, nm_k, if_pos rfl]
      try dsimp only
      rw [nm_k, th_1]
/-! what an act would bring -/
def gdone (z : Nat → Int32) (k g w : Int32) : Bool := wi k 0 3 && (wi w 0 3 && (if k = 1 then wi g 0 9 else isf z g))
theorem cd_1 {M : MS} {β : Type} {k w : Int32} {J : Int32 → Option β} : (bd (F_X4_isWithin M k (0 : Int32) (3 : Int32)) fun r2 => (nm J fun j => (if r2 = 0 then (j (0 : Int32)) else (bd (F_X4_isWithin M w (0 : Int32) (3 : Int32)) fun r38 => (if r38 = 0 then (j (0 : Int32)) else (j (1 : Int32))))))) = J (if (wi k 0 3 && wi w 0 3) = true then 1 else 0) := by
  by_cases h0 : wi k 0 3 = true
  · rw [isW_t h0, bd_s, nm_k, if_neg (by decide)]
    by_cases h1 : wi w 0 3 = true
    · rw [isW_t h1, bd_s, if_neg (by decide), h0, h1]; rfl
    · rw [isW_f h1, bd_s, if_pos rfl, if_neg (by simp [h1])]
  · rw [isW_f h0, bd_s, nm_k, if_pos rfl, if_neg (by simp [h0])]
theorem cd_2 {M : MS} {z : Nat → Int32} {β : Type} {k g : Int32} {J : Int32 → Option β} (h : CZ M 0 z) : nm J (fun j => (if ¬ k = (1 : Int32) then (bd (F_X3_isFighter M 0 g) fun r33 => (j r33)) else (bd (F_X4_isWithin M g (0 : Int32) (9 : Int32)) fun r35 => (j r35)))) = J (if (if k = 1 then wi g 0 9 else isf z g) = true then 1 else 0) := by
  rw [nm_k]
  by_cases e : k = 1
  · rw [if_neg (fun q => q e), if_pos e]
    by_cases h1 : wi g 0 9 = true
    · rw [isW_t h1, bd_s, if_pos h1]
    · rw [isW_f h1, bd_s, if_neg h1]
  · rw [if_pos e, if_neg e]
    by_cases h1 : isf z g = true
    · rw [cF_t h h1, bd_s, if_pos h1]
    · rw [cF_f h h1, bd_s, if_neg h1]
theorem md_1 {M : MS} {z : Nat → Int32} {β : Type} {k g w : Int32} {J : Int32 → Option β} (hm : rA M 221 = z) (hz : Z0 z) : (bd (F_X5_in M k (0 : Int32) (3 : Int32)) fun r2 => (nm J fun j => (if r2 = 0 then (j (0 : Int32)) else (bd (F_X5_in M w (0 : Int32) (3 : Int32)) fun r15 => (if r15 = 0 then (j (0 : Int32)) else (if ¬ k = (1 : Int32) then (bd (F_X5_isFighter M g) fun r19 => (if r19 = 0 then (j (0 : Int32)) else (j (1 : Int32)))) else (bd (F_X5_in M g (0 : Int32) (9 : Int32)) fun r22 => (if r22 = 0 then (j (0 : Int32)) else (j (1 : Int32)))))))))) = J (if gdone z k g w = true then 1 else 0) := by
  unfold gdone
  by_cases h0 : wi k 0 3 = true
  · rw [in_t h0, bd_s, nm_k, if_neg (by decide)]
    by_cases h1 : wi w 0 3 = true
    · rw [in_t h1, bd_s, if_neg (by decide), h0, h1]
      by_cases e : k = 1
      · rw [if_neg (fun q => q e), if_pos e]
        by_cases h2 : wi g 0 9 = true
        · rw [in_t h2, bd_s, if_neg (by decide), h2]; rfl
        · rw [in_f h2, bd_s, if_pos rfl, if_neg (by simp [h2])]
      · rw [if_pos e, if_neg e]
        by_cases h2 : isf z g = true
        · rw [mF_t hm hz h2, bd_s, if_neg (by decide), h2]; rfl
        · rw [mF_f hm h2, bd_s, if_pos rfl, if_neg (by simp [h2])]
    · rw [in_f h1, bd_s, if_pos rfl, if_neg (by simp [h1])]
  · rw [in_f h0, bd_s, nm_k, if_pos rfl, if_neg (by simp [h0])]
theorem cdone_l {M : MS} {z : Nat → Int32} {m : Nat} {sv : Nat → Nat → Int32} {t : Nat} {b : Nat → Int32} {kd x : Int32} {w : Nat} (h : CI M z m sv t b) (hp : PI z m sv t) (hx : xok z kd x) (hk : k4 kd) (hw : w ≤ 3) : ∃ M1, (bd (F_X3_isPossible M 0 (rF M 54 0) kd x) fun r14 => (if ¬ nI w = 0 then (if ¬ r14 = 0 then (if ¬ nI w = (1 : Int32) then (bd (F_X3_copyFrom M 27 0) fun M19 => (bd2 (F_X3_act M19 27 kd x (0 : Int32) (1 : Int32)) fun r22 M21 => (nm (fun (s23 : Int32) => (if ¬ nI w = (2 : Int32) then (some ((0 : Nat), (rF M21 54 27), M21)) else (if s23 = 0 then (some ((0 : Nat), (1 : Int32), M21)) else (some ((0 : Nat), (0 : Int32), M21))))) fun j137_23 => (if ¬ r22 = (-1 : Int32) then (j137_23 (0 : Int32)) else (j137_23 (1 : Int32)))))) else (bd (F_X3_numberSetOff M 0 kd) fun r29 => (some ((0 : Nat), r29, M)))) else (some ((0 : Nat), (-1 : Int32), M))) else (if r14 = 0 then (some ((0 : Nat), (0 : Int32), M)) else (some ((0 : Nat), (1 : Int32), M))))) = some (0, zwd z kd x w, M1) ∧ CI M1 z m sv t b ∧ MPart M M1 := by
  obtain ⟨hz, ht, _⟩ := id hp
  rw [ccx_l h.1 hz ht hx hk, bd_s]
  by_cases e : zcx z kd x = true
  · obtain ⟨e1, e2⟩ := zcx_t e
    have e2' : zpos z (z 2).toNatClampNeg kd x = true := e2
    obtain ⟨d1, d2, d3⟩ := TH_t hz ht e1
    rw [if_pos e]
    unfold zwd
    rw [if_neg e1, if_pos e2']
    by_cases w0 : w = 0
    · rw [if_neg (fun q => q ((wl0 hw).mpr w0)), if_pos w0, if_neg (by decide)]
      exact ⟨M, rfl, h, MPart_refl⟩
    rw [if_pos (fun q => w0 ((wl0 hw).mp q)), if_neg w0, if_pos (by decide)]
    by_cases w1 : w = 1
    · rw [if_neg (fun q => q ((wl1 hw).mpr w1)), if_pos w1, cnum_eq hz h.1 d1 d2, bd_s]
      exact ⟨M, rfl, h, MPart_refl⟩
    rw [if_pos (fun q => w1 ((wl1 hw).mp q)), if_neg w1]
    obtain ⟨M3, g1, g2⟩ := scr_eq h hp
    obtain ⟨M5, R', k1, k2⟩ := cdx_s (c := 0) (r := 1) (a3 := 0) (a4 := 1) g2 hz ht hx hk (by decide) (by decide) (fun _ => ⟨rfl, rfl⟩) e
    have ht2 : rF M5 54 27 = zdA z kd x 0 1 2 := k2.2.1.1.2.2.1
    have k1' : F_X3_act M3 27 kd x 0 1 = some (zactR z (z 2).toNatClampNeg kd x 0 1, M5) := k1
    rw [g1, bd_s, k1', bd2_s, nm_k]
    have fin : CI M5 z m sv t b ∧ MPart M M5 := ⟨CI_scr h hp k2, MPart_CFR k2.2.2.1 (by decide)⟩
    by_cases w2 : w = 2
    · rw [if_pos w2]
      have q2 : ¬ ¬ nI w = 2 := fun q => q ((wl2 hw).mpr w2)
      by_cases q : zactR z (z 2).toNatClampNeg kd x 0 1 = -1
      · rw [if_neg (fun r => r q), if_pos q]
        try dsimp only
        rw [if_neg q2, if_neg (by decide)]
        exact ⟨M5, rfl, fin⟩
      · rw [if_pos q, if_neg q]
        try dsimp only
        rw [if_neg q2, if_pos rfl]
        exact ⟨M5, rfl, fin⟩
    · have q2 : ¬ nI w = 2 := fun q => w2 ((wl2 hw).mp q)
      rw [if_neg w2]
      by_cases q : zactR z (z 2).toNatClampNeg kd x 0 1 = -1
      · rw [if_neg (fun r => r q)]
        try dsimp only
        rw [if_pos q2, ht2]
        exact ⟨M5, rfl, fin⟩
      · rw [if_pos q]
        try dsimp only
        rw [if_pos q2, ht2]
        exact ⟨M5, rfl, fin⟩
  · have hn : zwd z kd x w = if w = 0 then 0 else -1 := by
      unfold zwd
      by_cases e1 : z 2 = -1
      · rw [if_pos e1]
      · rw [if_neg e1, if_neg (fun q => e (by unfold zcx ztn; simp [e1, q]))]
    rw [if_neg e, hn]
    by_cases w0 : w = 0
    · rw [if_neg (fun q => q ((wl0 hw).mpr w0)), if_pos w0, if_pos rfl]
      exact ⟨M, rfl, h, MPart_refl⟩
    · rw [if_pos (fun q => w0 ((wl0 hw).mp q)), if_neg w0, if_neg (by decide)]
      exact ⟨M, rfl, h, MPart_refl⟩
theorem s_ifDone (k g w : Int32) : SOK (fun M => F_X4_ifDone M k g w) [(1, (1 : Int32))] (fun M => F_X5_ifDone M k g w) := by
  refine sok_of (fun z m sv t b hp hb => ?_)
  obtain ⟨hz, ht, _⟩ := id hp
  by_cases hg : gdone z k g w = true
  · obtain ⟨h0, h1, h2⟩ : wi k 0 3 = true ∧ wi w 0 3 = true ∧ (if k = 1 then wi g 0 9 else isf z g) = true := by
      unfold gdone at hg
      rw [Bool.and_eq_true, Bool.and_eq_true] at hg
      exact hg
    obtain ⟨n, _, hn, en⟩ := wi_n (l := 0) (h := 3) h1 (by decide) (by decide)
    obtain ⟨kn, _, hkn, ekn⟩ := wi_n (l := 0) (h := 3) h0 (by decide) (by decide)
    have hk : k4 k := by
      rcases (show kn = 0 ∨ kn = 1 ∨ kn = 2 ∨ kn = 3 by omega) with q | q | q | q <;> rw [ekn, q]
      · exact Or.inl rfl
      · exact Or.inr (Or.inl rfl)
      · exact Or.inr (Or.inr (Or.inl rfl))
      · exact Or.inr (Or.inr (Or.inr rfl))
    have hx : xok z k g := by
      by_cases e : k = 1
      · rw [if_pos e] at h2
        obtain ⟨q, _, hq, eq⟩ := wi_n (l := 0) (h := 9) h2 (by decide) (by decide)
        exact Or.inl ⟨e, q, hq, eq⟩
      · rw [if_neg e] at h2
        obtain ⟨q, hq, eq⟩ := isf_n hz.1 h2
        exact Or.inr ⟨e, q, hq, eq⟩
    refine go_ok (r := zwd z k g n) (fun M h => ?_) (fun M h => ?_) hp hb
    · try dsimp only
      rw [F_X4_ifDone, cd_1, if_pos (by rw [h0, h1]; rfl)]
      try dsimp only
      rw [rqA1, cd_2 h.1, if_pos h2]
      try dsimp only
      rw [rqA1, en]
      exact cdone_l h hp hx hk hn
    · try dsimp only
      obtain ⟨M2, g1, g2⟩ := mwd_eq (M := wF M 80 220 0) (kd := k) (x := g) (w := n) (by rw [rA_wF, h.1]; exact hz) (by rw [rA_wF, h.1]; exact ht) (by rw [rA_wF, h.1]; exact hx) hn
      rw [rA_wF, h.1] at g1
      rw [F_X5_ifDone, md_1 h.1 hz.1, if_pos hg]
      try dsimp only
      rw [nm_k, if_neg (by decide)]
      try dsimp only
      rw [nm_k, th_0, en, g1, bd2_s]
      exact ⟨M2, rfl, MOK_LQ h g2⟩
  · refine go_thr 1 1 hp hb (fun M h => ?_) (fun M h => ?_) (by decide) (by decide) (by decide)
    · try dsimp only
      rw [F_X4_ifDone, cd_1]
      try dsimp only
      by_cases h0 : (wi k 0 3 && wi w 0 3) = true
      · rw [if_pos h0, rqA1, cd_2 h.1]
        try dsimp only
        rw [Bool.and_eq_true] at h0
        rw [if_neg (fun q => hg (by unfold gdone; rw [h0.1, h0.2, q]; rfl)), rqA0]
      · rw [if_neg h0, rqA0]
    · try dsimp only
      rw [F_X5_ifDone, md_1 h.1 hz.1, if_neg hg]
      try dsimp only
      rw [nm_k, if_pos rfl]
      try dsimp only
      rw [nm_k, th_1]
