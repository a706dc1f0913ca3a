/-! ready; the calls that throw nothing -/
def rk (k c : Int32) : Bool := decide (k = 0 ∨ k = 2) && wi c 0 3
def rs (x g w : Int32) : Bool := decide (¬ x = -1) && (decide (¬ g = x) && decide (¬ w = x))
theorem rdy_w {M : MS} {z : Nat → Int32} {w : Int32} {J : MS → Option (Nat × Int32 × MS)} (h : CZ M 0 z) (hw : w = -1 ∨ isf z w = true) : nm J (fun j15_4 => (if w = (-1 : Int32) then (j15_4 M) else (bx (F_X4_requireFighter M w) (fun M31 => (j15_4 M31)) (0 : Int32)))) = J M := by
  rw [nm_k]
  by_cases e : w = -1
  · rw [if_pos e]
  · rw [if_neg e, rqF1 h (hw.resolve_left e)]
theorem rdy_w0 {M : MS} {z : Nat → Int32} {w : Int32} {J : MS → Option (Nat × Int32 × MS)} (h : CZ M 0 z) (hw : ¬ (w = -1 ∨ isf z w = true)) : nm J (fun j15_4 => (if w = (-1 : Int32) then (j15_4 M) else (bx (F_X4_requireFighter M w) (fun M31 => (j15_4 M31)) (0 : Int32)))) = some (3, 0, M) := by
  rw [nm_k, if_neg (fun q => hw (Or.inl q)), rqF0 h (fun q => hw (Or.inr q))]
theorem rdy_k {M : MS} {k c : Int32} {J : Int32 → Option (Nat × Int32 × MS)} : nm J (fun j39_6 => (nm (bd (F_X4_isWithin M c (0 : Int32) (3 : Int32)) fun r25 => (if r25 = 0 then (j39_6 (0 : Int32)) else (j39_6 (1 : Int32)))) fun j24_22 => (if k = 0 then j24_22 else (if ¬ k = (2 : Int32) then (j39_6 (0 : Int32)) else j24_22)))) = J (if rk k c = true then 1 else 0) := by
  have key : (bd (F_X4_isWithin M c (0 : Int32) (3 : Int32)) fun r25 => (if r25 = 0 then (J (0 : Int32)) else (J (1 : Int32)))) = J (if wi c 0 3 = true then 1 else 0) := by
    by_cases h : wi c 0 3 = true
    · rw [isW_t h, bd_s, if_neg (by decide), if_pos h]
    · rw [isW_f h, bd_s, if_pos rfl, if_neg h]
  rw [nm_k, nm_k, key]
  unfold rk
  by_cases e : k = 0
  · rw [if_pos e]; simp [e]
  · rw [if_neg e]
    by_cases e2 : k = 2
    · rw [if_neg (fun q => q e2)]; simp [e2]
    · rw [if_pos e2]; simp [e, e2]
theorem rdy_s {x g w : Int32} {J : Int32 → Option (Nat × Int32 × MS)} : nm J (fun j80_11 => (if x = (-1 : Int32) then (j80_11 (0 : Int32)) else (if g = x then (j80_11 (0 : Int32)) else (if w = x then (j80_11 (0 : Int32)) else (j80_11 (1 : Int32)))))) = J (if rs x g w = true then 1 else 0) := by
  rw [nm_k]
  unfold rs
  by_cases e : x = -1
  · rw [if_pos e]; simp [e]
  · rw [if_neg e]
    by_cases e1 : g = x
    · rw [if_pos e1]; simp [e1]
    · rw [if_neg e1]
      by_cases e2 : w = x
      · rw [if_pos e2]; simp [e2]
      · rw [if_neg e2]; simp [e, e1, e2]
theorem why_w {M : MS} {z : Nat → Int32} {k g w c : Int32} (hm : rA M 221 = z) (hz : Z0 z) (hg : isf z g = true) (hw : w = -1 ∨ isf z w = true) : F_X5_whyNotReady M k g w c = some (if rk k c = true then (if rs (z 2) g w = true then 0 else 3) else 2) := by
  rw [F_X5_whyNotReady, mF_t hm hz hg, bd_s, if_neg (by decide)]
  obtain ⟨r5, h5, h6⟩ : ∃ r5, F_X5_isFighter M w = some r5 ∧ (¬ r5 = 0 ∨ w = -1) := by
    by_cases q : isf z w = true
    · exact ⟨1, mF_t hm hz q, Or.inl (by decide)⟩
    · exact ⟨0, mF_f hm q, Or.inr (hw.resolve_right q)⟩
  have sel : ∀ A B : Option Int32, (if ¬ r5 = 0 then A else (if w = (-1 : Int32) then A else B)) = A := by
    intro A B
    by_cases q : ¬ r5 = 0
    · rw [if_pos q]
    · rw [if_neg q, if_pos (h6.resolve_left q)]
  rw [h5, bd_s, nm_k, sel, nm_k]
  unfold rk rs
  by_cases hk : k = 0 ∨ k = 2
  · have sel2 : ∀ A : Option Int32, (if k = 0 then A else (if ¬ k = (2 : Int32) then (some (2 : Int32)) else A)) = A := by
      intro A
      by_cases q : k = 0
      · rw [if_pos q]
      · rw [if_neg q, if_neg (fun r => r (hk.resolve_left q))]
    rw [sel2]
    by_cases hc : wi c 0 3 = true
    · rw [in_t hc, bd_s, if_pos (by decide), gd2, gd2, gd2, tn2, hm]
      by_cases e : z 2 = -1
      · rw [if_pos e]; simp [e, hk, hc]
      · rw [if_neg e]
        by_cases e1 : g = z 2
        · rw [if_pos e1]; simp [← e1, hk, hc]
        · rw [if_neg e1]
          by_cases e2 : w = z 2
          · rw [if_neg (fun q => q e2)]; simp [← e2, hk, hc]
          · rw [if_pos e2]; simp [e, e1, e2, hk, hc]
    · rw [in_f hc, bd_s, if_neg (by decide)]; simp [hc]
  · have q0 : ¬ k = 0 := fun q => hk (Or.inl q)
    have q2 : ¬ k = 2 := fun q => hk (Or.inr q)
    rw [if_neg q0, if_pos q2]
    simp [q0, q2]
theorem why_0 {M : MS} {z : Nat → Int32} {k g w c : Int32} (hm : rA M 221 = z) (hg : ¬ isf z g = true) : F_X5_whyNotReady M k g w c = some 1 := by
  rw [F_X5_whyNotReady, mF_f hm hg, bd_s, if_pos rfl]
theorem why_1 {M : MS} {z : Nat → Int32} {k g w c : Int32} (hm : rA M 221 = z) (hz : Z0 z) (hg : isf z g = true) (hw : ¬ (w = -1 ∨ isf z w = true)) : F_X5_whyNotReady M k g w c = some 1 := by
  rw [F_X5_whyNotReady, mF_t hm hz hg, bd_s, if_neg (by decide), mF_f hm (fun q => hw (Or.inr q)), bd_s, nm_k, if_neg (by decide), if_neg (fun q => hw (Or.inl q))]
theorem s_ready (k g w c : Int32) : SOK (fun M => F_X4_ready M k g w c) [(3, (1 : Int32)), (1, (2 : Int32)), (2, (3 : Int32))] (fun M => F_X5_ready M k g w c) := by
  refine sok_of (fun z m sv t b hp hb => ?_)
  obtain ⟨hz, ht, _⟩ := id hp
  have hb10 := hz.1.2.1
  by_cases hg : isf z g = true
  · by_cases hw : w = -1 ∨ isf z w = true
    · by_cases hk : rk k c = true
      · by_cases hs : rs (z 2) g w = true
        · obtain ⟨s1, s2, s3⟩ : ¬ z 2 = -1 ∧ ¬ g = z 2 ∧ ¬ w = z 2 := by
            unfold rs at hs
            rw [Bool.and_eq_true, Bool.and_eq_true, decide_eq_true_eq, decide_eq_true_eq, decide_eq_true_eq] at hs
            exact hs
          obtain ⟨k1, k2⟩ : (k = 0 ∨ k = 2) ∧ wi c 0 3 = true := by
            unfold rk at hk
            rw [Bool.and_eq_true, decide_eq_true_eq] at hk
            exact hk
          obtain ⟨d1, d2, d3, d4, d5⟩ := TH_t hz ht s1
          obtain ⟨cn, _, hcn, ec⟩ := wi_n (l := 0) (h := 3) k2 (by decide) (by decide)
          have h4 : ZW (zl4 z (ztn z) k g w c) := ZW_l4 hz d1 k1 (isf_n hz.1 hg) (hw.elim Or.inl (fun q => Or.inr (isf_n hz.1 q))) ⟨cn, hcn, ec⟩
          obtain ⟨w1, w2, w3⟩ := ready_ok hz d1 h4
          refine go_ok (r := zready z (ztn z) k g w c 2) (fun M h => ?_) (fun M h => ?_) (PI_new hp w1 w2) hb
          · try dsimp only
            rw [F_X4_ready, rqF1 h.1 hg, rdy_w h.1 hw]
            try dsimp only
            rw [rdy_k, if_pos hk]
            try dsimp only
            rw [rqA1, rdy_s, h.1.1.2.2.1, if_pos hs]
            try dsimp only
            rw [rqS1]
            refine csv h hp (fun M1 R hcr => ?_)
            obtain ⟨M2, q1, q2⟩ := cready_l (a := k) (b := g) (c := w) (d := c) hcr hz d1 d2 h4
            exact ⟨M2, R, by rw [q1, bd_s, cz_t q2], q2⟩
          · try dsimp only
            rw [F_X5_ready, why_w h.1 hz.1 hg hw, if_pos hk, if_pos hs, bd_s, nm_k, th_0]
            refine msv h hp (fun M1 hm => ?_)
            have e4 : rA (mz M1 (zl4 z (ztn z) k g w c)) 221 = zl4 z (ztn z) k g w c := mz_z
            have q1 := endT (M := mz M1 (zl4 z (ztn z) k g w c)) (f := ztn z) (by rw [e4]; exact h4) (by rw [e4, (Z0_l4 hz.1).2.1]; exact d1) (by rw [e4, zl4_lo (by decide)]; exact d2)
            rw [e4, mz_mz] at q1
            refine ⟨mz M1 (zready z (ztn z) k g w c), ?_, FQ_mz, mz_z⟩
            rw [gd2, tn2, nm_k, hm, d2, lay_l (by omega) (by decide), bd_s, lay_l (by omega) (by decide), bd_s, lay_l (by omega) (by decide), bd_s, lay_l (by omega) (by decide), bd_s]
            simp only [mz_mz, mz_z, hm]
            have q2 : F_X5_endTurn (mz M1 (zl (zl (zl (zl z (ztn z) 7 k) (ztn z) 8 g) (ztn z) 9 w) (ztn z) 10 c)) = some (mz M1 (zready z (ztn z) k g w c)) := q1
            rw [q2, bd_s, gd2, mz_z]
        · refine go_thr 2 3 hp hb (fun M h => ?_) (fun M h => ?_) (by decide) (by decide) (by decide)
          · try dsimp only
            rw [F_X4_ready, rqF1 h.1 hg, rdy_w h.1 hw]
            try dsimp only
            rw [rdy_k, if_pos hk]
            try dsimp only
            rw [rqA1, rdy_s, h.1.1.2.2.1, if_neg hs]
            try dsimp only
            rw [rqS0]
          · try dsimp only
            rw [F_X5_ready, why_w h.1 hz.1 hg hw, if_pos hk, if_neg hs, bd_s, nm_k, th_3]
      · refine go_thr 1 2 hp hb (fun M h => ?_) (fun M h => ?_) (by decide) (by decide) (by decide)
        · try dsimp only
          rw [F_X4_ready, rqF1 h.1 hg, rdy_w h.1 hw]
          try dsimp only
          rw [rdy_k, if_neg hk]
          try dsimp only
          rw [rqA0]
        · try dsimp only
          rw [F_X5_ready, why_w h.1 hz.1 hg hw, if_neg hk, bd_s, nm_k, th_2]
    · refine go_thr 3 1 hp hb (fun M h => ?_) (fun M h => ?_) (by decide) (by decide) (by decide)
      · try dsimp only
        rw [F_X4_ready, rqF1 h.1 hg, rdy_w0 h.1 hw]
      · try dsimp only
        rw [F_X5_ready, why_1 h.1 hz.1 hg hw, bd_s, nm_k, th_1]
  · refine go_thr 3 1 hp hb (fun M h => ?_) (fun M h => ?_) (by decide) (by decide) (by decide)
    · try dsimp only
      rw [F_X4_ready, rqF0 h.1 hg]
    · try dsimp only
      rw [F_X5_ready, why_0 h.1 hg, bd_s, nm_k, th_1]
/-! without exceptions -/
theorem n_begin {M : MS} (h : INV M) : ∃ r M1 M2, F_X4_begin M = some (r, M1) ∧ F_X5_begin M1 = some (r, M2) ∧ INV M2 := by
  obtain ⟨z, m, sv, t, b, hp, hb, hc, hm⟩ := h
  obtain ⟨hz, ht, _⟩ := id hp
  obtain ⟨w1, w2, _⟩ := zbegin_ok hz
  obtain ⟨M1, g1, g2, g3, g4⟩ := csave_eq hc hp
  have hp1 := PI_save hp
  obtain ⟨M2, k1, k2⟩ := cbegin_eq (CR_of g2 hp1) hz
  have c2 := CI_now g2 hp1 k2
  have m2 := MI_keep hm (MPart_trans g3 (MPart_CFR k2.2.2.1 (by decide)))
  obtain ⟨M3, q1, q2, q3, q4⟩ := msv (z' := zbegin z) (r := zbegin z 2) (K := fun M3 => F_X5_begin_l11 FU 0 M3) m2 hp (fun M1 hm1 => ⟨_, by subst hm1; exact mbegin_eq hz, FQ_mz, mz_z⟩)
  refine ⟨zbegin z 2, M2, M3, ?_, ?_, zbegin z, svM m, svS sv m z, t, b, PI_new hp w1 w2, hb, CI_keep c2 (PI_new hp w1 w2) q3, q2⟩
  · rw [F_X4_begin, g1, bd_s, k1, bd_s, cz_t k2]
  · rw [F_X5_begin, nm_k]
    exact q1
theorem n_clear {M : MS} (h : INV M) : ∃ r M1 M2, F_X4_clearBuffer M = some (r, M1) ∧ F_X5_clearBuffer M1 = some (r, M2) ∧ INV M2 := by
  obtain ⟨z, m, sv, t, b, hp, hb, hc, hm⟩ := h
  obtain ⟨hz, ht, hm6, hsv, h60⟩ := id hp
  have hp' : PI z m sv 0 := ⟨hz, ht, hm6, hsv, by decide⟩
  have c1 : CI (wF M 17 218 0) z m sv 0 b := CI_txt hc hp (fun c v hv => by rw [rF_wF, if_neg (fun q => hv q.2)]) (fun v _ => rfl) rfl ⟨rF_self, fun i hi => by omega⟩
  have m1 : MI (wF M 17 218 0) z m sv t b := MI_keep hm (MPart_F (by decide))
  refine ⟨nI t, wF M 17 218 0, wF (wF (wF M 17 218 0) 80 220 0) 86 220 0, ?_, ?_, z, m, sv, 0, b, hp', fun i hi => by omega, CI_keep c1 hp' (CPart_trans CPart_80 CPart_80), ?_⟩
  · rw [F_X4_clearBuffer, nm_k, nm_k, hc.2.2.2.2.1.1]
  · rw [F_X5_clearBuffer, nm_k, nm_k, nm_k, rF_wF, if_neg (by decide), m1.2.2.2.1]
  · obtain ⟨a1, b1, d1, e1, f1⟩ := m1
    exact ⟨a1, by rw [rF_wF, if_neg (by decide), rF_wF, if_neg (by decide)]; exact b1, d1, rF_self, fun i hi => by omega⟩
theorem n_first {M : MS} (h : INV M) : ∃ r M2, F_X4_firstError M = some r ∧ F_X5_firstError M = some (r, M2) ∧ INV M2 := by
  obtain ⟨z, m, sv, t, b, hp, hb, hc, hm⟩ := h
  have h60 := hp.2.2.2.2
  obtain ⟨M2, g1, g2⟩ := mfe_eq (M := M) ⟨hm.2.2.2.1, hm.2.2.2.2⟩ hb h60
  exact ⟨_, M2, cfe_eq hc.2.2.2.2.1 h60, g1, z, m, sv, t, b, hp, hb, CI_keep hc hp (CPart_trans CPart_80 (CPart_RQ g2)), MI_RQ (MI_80 (by decide) hm) g2⟩
theorem n_best {M : MS} (h : INV M) : ∃ r M1 M2, F_X4_bestStrike M = some (r, M1) ∧ F_X5_bestStrike M1 = some (r, M2) ∧ INV M2 := by
  obtain ⟨z, m, sv, t, b, hp, hb, hc, hm⟩ := h
  obtain ⟨hz, ht, _⟩ := id hp
  obtain ⟨M1, g1, g2, g3, g4⟩ := cbest_eq hc hp
  have m1 := MI_keep hm g3
  obtain ⟨M2, k1, k2⟩ := mbest_eq (M := wF M1 80 220 0) (by rw [rA_wF, m1.1]; exact hz) (by rw [rA_wF, m1.1]; exact ht)
  rw [rA_wF, m1.1] at k1
  obtain ⟨q1, q2, q3⟩ := MOK_LQ m1 k2
  refine ⟨_, M1, M2, g1, ?_, z, m, sv, t, b, hp, hb, CI_keep g2 hp q2, q1⟩
  rw [F_X5_bestStrike, nm_k, k1, bd2_s]
theorem n_stand {M : MS} (h : INV M) : ∃ r M2, F_X4_standing M = some r ∧ F_X5_standing M = some (r, M2) ∧ FP.dcmp r r = some .eq ∧ INV M2 := by
  obtain ⟨z, m, sv, t, b, hp, hb, hc, hm⟩ := h
  obtain ⟨hz, ht, _⟩ := id hp
  refine ⟨zshare z, wF M 80 220 0, cshare_l hc.1 hz, ?_, share_cmp hz, z, m, sv, t, b, hp, hb, CI_keep hc hp CPart_80, MI_80 (by decide) hm⟩
  rw [F_X5_standing, nm_k, mshare_eq (by rw [rA_wF, hm.1]; exact hz), bd_s, rA_wF, hm.1]
theorem n_digest {M : MS} (h : INV M) : ∃ r M1 M2, F_X4_digest M = some (r, M1) ∧ F_X5_digest M1 = some (r, M2) ∧ INV M2 := by
  obtain ⟨z, m, sv, t, b, hp, hb, hc, hm⟩ := h
  obtain ⟨hz, ht, _⟩ := id hp
  obtain ⟨v, v1, v2⟩ := bits_both hz
  obtain ⟨M1, g1, g2, g3, g4⟩ := cdig_eq hc hp v1
  obtain ⟨M2, k1, k2, k3⟩ := mdig_eq (MI_keep hm g3) hp v2
  exact ⟨_, M1, M2, g1, k1, z, m, sv, t, b, hp, hb, CI_keep g2 hp k3, k2⟩
