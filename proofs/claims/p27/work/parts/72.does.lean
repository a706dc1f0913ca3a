/-! an act done, by the law -/
theorem zcnt_o {z : Nat → Int32} {f g w : Nat} (hw : w < 17) (h : w ≠ 15) : zo (zcnt z f) g w = zo z g w := by
  unfold zcnt
  rw [zo_zl (by decide) hw, if_neg (fun q => h q.2), zo_lo (by decide)]
theorem zfor_c {z : Nat → Int32} {f : Nat} : zfor (zcnt z f) f = zfor z f := by
  unfold zfor
  rw [zcnt_o (by decide) (by decide), zcnt_o (by decide) (by decide), zcnt_o (by decide) (by decide)]
theorem LRt_ign {M : MS} {z : Nat → Int32} {tv x : Int32} {f w : Nat} (h : LRt M z tv) (hz : Z0 z) (hw : w = 15 ∨ w = 16) : LRt M (zl z f w x) tv := by
  have hb := hz.2.1
  refine LRt_z h (zn_zl hz) (fun g _ w' h1 h2 _ _ => ?_) (fun i hi _ => zl_lo (by omega))
  rw [zo_zl (by omega) (by omega), if_neg (by omega)]
theorem does_ok {M : MS} {zc z : Nat → Int32} {tv kd x ci ri : Int32} {f c r : Nat} (hS : SJ M zc) (hB : SB zc z) (h : LRt M z tv) (hz : ZW z) (h6 : zn z ≤ 6) (hf : f < zn z) (hx : xok z kd x) (hk : k4 kd) (hc : c < 4) (hr : r ≤ 5) (hci : kd = 3 → ci = nI c ∧ ri = nI r) : ∃ M', F_L_does M (nI f) kd x ci ri = some (zdoR z f kd x c (nI r), M') ∧ LRt M' (zdo z f kd x c (nI r)) tv ∧ LF M M' ∧ KF M M' := by
  have l1 : LRt (wA M 223 2 (z 3 + 1)) (upd z 3 (z 3 + 1)) tv := LRt_t (g := 2) h hz.1 (by decide) (by decide)
  have u1 := ZW_up (g := 3) (x := z 3 + 1) hz (by decide) (by decide)
  have l2 : LRt (wA M 223 2 (z 3 + 1)) (zcnt z f) tv := LRt_ign l1 u1.1 (Or.inl rfl)
  have wc := ZW_cnt hz hf
  obtain ⟨c1, c2, c3⟩ := zcnt_n (f := f) hz.1
  obtain ⟨y, hy, ey⟩ := zfor_val (hz.2.1 f hf)
  have S3 : SJ (wA M 223 2 (z 3 + 1)) zc := SJ_LF hS (LF_A (by decide))
  have k0 : KF M (wA M 223 2 (z 3 + 1)) := KF_A ⟨by decide, Or.inr (by decide)⟩
  have f0 : LF M (wA M 223 2 (z 3 + 1)) := LF_A (by decide)
  obtain ⟨M3, hM3⟩ : ∃ M3, M3 = wA M 223 2 (z 3 + 1) := ⟨_, rfl⟩
  obtain ⟨s1, hs1, es1⟩ := (hz.2.1 f hf).2.2.2.2.2.2.2 1 (by decide)
  obtain ⟨s2, hs2, es2⟩ := (hz.2.1 f hf).2.2.2.2.2.2.2 2 (by decide)
  have es1' : zo z f 12 = nI s1 := es1
  have es2' : zo z f 13 = nI s2 := es2
  have r1 : rA M3 221 (4 * f + 1) = nI s1 := by rw [hM3, rA_wAn (by decide)]; exact (h.2.1 f hf 1 (by decide)).trans es1
  have r2 : rA M3 221 (4 * f + 2) = nI s2 := by rw [hM3, rA_wAn (by decide)]; exact (h.2.1 f hf 2 (by decide)).trans es2
  have hforce : ∀ (J : Int32 → Option (Int32 × MS)), (nm (fun (s8 : Int32) => (nm (zo z f 4 + s8) fun x10 => (gdb (inb (((4 : Int32) * nI f) + (1 : Int32)) 24) (nm J fun j53_12 => (if (rA M3 221 (Int32.toNatClampNeg (((4 : Int32) * nI f) + (1 : Int32)))) ≤ 0 then (j53_12 x10) else (j53_12 (x10 / (2 : Int32)))))))) fun j30_8 => (if (rA M3 221 (Int32.toNatClampNeg (((4 : Int32) * nI f) + (2 : Int32)))) ≤ 0 then (j30_8 (0 : Int32)) else (j30_8 (3 : Int32)))) = J (zfor z f) := by
    intro J
    have hz4 : zfor z f = if 0 < zo z f 12 then (zo z f 4 + (if 0 < zo z f 13 then 3 else 0)) / 2 else zo z f 4 + (if 0 < zo z f 13 then 3 else 0) := rfl
    rw [hz4, es1', es2']
    simp only [nm_k]
    rw [ix41, gdb_t (inb_nI (by omega) (by decide)), gdb_t (inb_nI (by omega) (by decide)), ix42, nI_clamp (by omega), nI_clamp (by omega), r1, r2]
    by_cases q2 : s2 = 0
    · rw [q2, if_pos (by decide), if_neg (show ¬ (0 : Int32) < nI 0 by decide)]
      by_cases q1 : s1 = 0
      · rw [q1, if_pos (by decide), if_neg (show ¬ (0 : Int32) < nI 0 by decide)]
      · rw [if_neg (nI_nle (by omega) (by omega)), if_pos (show (0 : Int32) < nI s1 from nI_lt (a := 0) (by omega) (by omega))]
    · rw [if_neg (nI_nle (by omega) (by omega)), if_pos (show (0 : Int32) < nI s2 from nI_lt (a := 0) (by omega) (by omega))]
      by_cases q1 : s1 = 0
      · rw [q1, if_pos (by decide), if_neg (show ¬ (0 : Int32) < nI 0 by decide)]
      · rw [if_neg (nI_nle (by omega) (by omega)), if_pos (show (0 : Int32) < nI s1 from nI_lt (a := 0) (by omega) (by omega))]
  rw [F_L_does, g72, g72, tn2, nm_k, h.2.2.2.2 2 (by decide) (by decide), show z (tw 2) = z 3 from rfl, ← hM3]
  rw [← hM3] at l1 l2 S3 k0 f0
  rw [cf_4 S3 hB hf, bd0_s, ix42, gdb_t (inb_nI (by omega) (by decide)), ← ix42, hforce]
  try dsimp only
  rcases hx with ⟨k1, p, hp, e⟩ | ⟨k1, g, hg, e⟩
  · -- a step
    subst k1 e
    obtain ⟨a, ha, ea⟩ := (hz.2.1 f hf).2.2.2.2.1
    have ra : rA M3 220 (8 * f + 1) = nI a := by rw [hM3, rA_wAn (by decide)]; exact (h.1 f hf 1 (by decide)).trans ea
    have hd := absd a ha p hp
    have hR : zdoR z f 1 (nI p) c (nI r) = zap (nI a) (nI p) := by unfold zdoR; rw [if_neg (by decide), if_neg (by decide), if_pos rfl, zcnt_o (by decide) (by decide), ea]
    have hZ : zdo z f 1 (nI p) c (nI r) = zl (zcnt z f) f 5 (nI p) := by unfold zdo; rw [if_neg (by decide), if_neg (by decide), if_pos rfl]
    have l3 : LRt (wA M3 220 (8 * f + 1) (nI p)) (zl (zcnt z f) f 5 (nI p)) tv := LRt_a (f := f) (j := 1) l2 c1 (by rw [c2]; exact hf) (by decide)
    rw [hR, hZ, if_pos (show ¬ (1 : Int32) = 0 by decide), if_neg (fun q => q rfl), ix81, gdb_t (inb_nI (by omega) (by decide)), nI_clamp (by omega), ra, nm_k, gdb_t (inb_nI (by omega) (by decide)), nm_k]
    refine ⟨wA M3 220 (8 * f + 1) (nI p), ?_, l3, LF_trans f0 (LF_A (by decide)), KF_trans k0 (KF_A ⟨by decide, Or.inl (by decide)⟩)⟩
    by_cases c0 : 0 ≤ nI p - nI a
    · rw [if_pos c0] at hd ⊢
      rw [hd]
    · rw [if_neg c0] at hd ⊢
      rw [hd]
  subst e
  have hcl : (nI g).toNatClampNeg = g := nI_clamp (by omega)
  obtain ⟨l, hl, el⟩ := (hz.2.1 g hg).2.1
  have rl : rA M3 220 (8 * g) = nI l := by rw [hM3, rA_wAn (by decide)]; exact (h.1 g hg 0 (by decide)).trans el
  rcases hk with e | e | e | e
  · -- a strike
    subst e
    have hlo : zlost (zcnt z f) f g = zlost z f g := by unfold zlost; rw [zfor_c, zcnt_o (by decide) (by decide)]
    have hR : zdoR z f 0 (nI g) c (nI r) = zlost z f g := by unfold zdoR; rw [if_pos rfl, hcl, hlo]
    have hZ : zdo z f 0 (nI g) c (nI r) = zl (zl (zcnt z f) g 2 (zo z g 2 - zlost z f g)) f 16 (zo (zl (zcnt z f) g 2 (zo z g 2 - zlost z f g)) f 16 + zlost z f g) := by
      unfold zdo
      rw [if_pos rfl, hcl]
      unfold zstr
      rw [hlo, zcnt_o (by decide) (by decide)]
    have hlv : zlost z f g = if nI l ≤ nI y then nI l else nI y := by unfold zlost; rw [el, ey]
    have hv : (if zfor z f ≤ nI l then nI l - zfor z f else 0) = zo z g 2 - zlost z f g ∧ nI l - (zo z g 2 - zlost z f g) = zlost z f g := by
      rw [el, hlv, ey]
      by_cases q : y ≤ l
      · rw [if_pos (nI_le q (by omega))]
        by_cases q2 : l ≤ y
        · have : l = y := by omega
          subst this
          rw [if_pos (nI_le (Nat.le_refl _) (by omega)), pk_sub (Nat.le_refl _)]
          exact ⟨rfl, by rw [Nat.sub_self]; exact Int32.sub_zero _⟩
        · rw [if_neg (nI_ge (by omega) (by omega)), pk_sub q, pk_sub (by omega)]
          exact ⟨rfl, by congr 1; omega⟩
      · rw [if_neg (nI_ge (by omega) (by omega)), if_pos (nI_le (by omega) (by omega)), pk_sub (Nat.le_refl _), Nat.sub_self]
        exact ⟨rfl, Int32.sub_zero _⟩
    have l3 : LRt (wA M3 220 (8 * g) (zo z g 2 - zlost z f g)) (zl (zcnt z f) g 2 (zo z g 2 - zlost z f g)) tv := LRt_a (f := g) (j := 0) l2 c1 (by rw [c2]; exact hg) (by decide)
    have l4 : LRt (wA M3 220 (8 * g) (zo z g 2 - zlost z f g)) (zdo z f 0 (nI g) c (nI r)) tv := by rw [hZ]; exact LRt_ign l3 (Z0_zl c1).1 (Or.inr rfl)
    refine ⟨wA M3 220 (8 * g) (zo z g 2 - zlost z f g), ?_, l4, LF_trans f0 (LF_A (by decide)), KF_trans k0 (KF_A ⟨by decide, Or.inl (by decide)⟩)⟩
    rw [hR, if_neg (fun q => q rfl), ix8, gdb_t (inb_nI (by omega) (by decide)), nI_clamp (by omega), rl, nm_k, nm_k]
    by_cases q : zfor z f ≤ nI l
    · have hv1 := hv.1
      rw [if_pos q] at hv1 ⊢
      rw [hv1]
      try dsimp only
      rw [gdb_t (inb_nI (by omega) (by decide)), nm_k, gdb_t (inb_nI (by omega) (by decide)), rA_wA, upd_s, hv.2]
    · have hv1 := hv.1
      rw [if_neg q] at hv1 ⊢
      rw [hv1]
      try dsimp only
      rw [gdb_t (inb_nI (by omega) (by decide)), nm_k, gdb_t (inb_nI (by omega) (by decide)), rA_wA, upd_s, hv.2]
  · exact absurd e k1
  · -- a help
    subst e
    obtain ⟨mo, hmo, emo⟩ := (hz.2.1 g hg).2.2.1
    have hh : zhl (zcnt z f) g = zhl z g := by unfold zhl; rw [zcnt_o (by decide) (by decide), zcnt_o (by decide) (by decide)]
    have hR : zdoR z f 2 (nI g) c (nI r) = zhl z g := by unfold zdoR; rw [if_neg (by decide), if_pos rfl, hcl, hh]
    have hZ : zdo z f 2 (nI g) c (nI r) = zl (zl (zcnt z f) g 2 (zhl z g)) g 14 0 := by
      unfold zdo
      rw [if_neg (by decide), if_pos rfl, hcl]
      unfold zhlp
      rw [hh]
    have l3 : LRt (wA M3 220 (8 * g) (zhl z g)) (zl (zcnt z f) g 2 (zhl z g)) tv := LRt_a (f := g) (j := 0) l2 c1 (by rw [c2]; exact hg) (by decide)
    have l4 : LRt (wA (wA M3 220 (8 * g) (zhl z g)) 221 (4 * g + 3) 0) (zdo z f 2 (nI g) c (nI r)) tv := by rw [hZ]; exact LRt_c (f := g) (j := 3) l3 (Z0_zl c1).1 (by rw [(Z0_zl c1).2.1, c2]; exact hg) (by decide)
    have hv : zhl z g = if nI l + 4 ≤ zo z g 3 then nI l + 4 else zo z g 3 := by
      unfold zhl
      rw [el, emo, nI_lit 4, nI_add]
      by_cases q : l + 4 ≤ mo
      · rw [if_pos (nI_le q (by omega))]
        by_cases q2 : mo ≤ l + 4
        · rw [if_pos (nI_le q2 (by omega)), show mo = l + 4 by omega]
        · rw [if_neg (nI_ge (by omega) (by omega))]
      · rw [if_pos (show nI mo ≤ nI (l + 4) from nI_le (by omega) (by omega)), if_neg (show ¬ nI (l + 4) ≤ nI mo from nI_ge (by omega) (by omega))]
    refine ⟨wA (wA M3 220 (8 * g) (zhl z g)) 221 (4 * g + 3) 0, ?_, l4, LF_trans f0 (LF_trans (LF_A (by decide)) (LF_A (by decide))), KF_trans k0 (KF_trans (KF_A ⟨by decide, Or.inl (by decide)⟩) (KF_A ⟨by decide, Or.inl (by decide)⟩))⟩
    rw [hR, if_pos (show ¬ (2 : Int32) = 0 by decide), if_pos (show ¬ (2 : Int32) = 1 by decide), if_neg (fun q => q rfl), cf_3 S3 hB hg, bd0_s, ix8, gdb_t (inb_nI (by omega) (by decide)), nI_clamp (by omega), rl, nm_k]
    have fin : (gdb (inb (nI (8 * g)) 48) (nm (wA M3 220 (8 * g) (zhl z g)) fun M32 => (gdb (inb (((4 : Int32) * nI g) + (3 : Int32)) 24) (nm (wA M32 221 (Int32.toNatClampNeg (((4 : Int32) * nI g) + (3 : Int32))) (0 : Int32)) fun M34 => (gdb (inb (nI (8 * g)) 48) (some ((rA M34 220 (8 * g)), M34))))))) = some (zhl z g, wA (wA M3 220 (8 * g) (zhl z g)) 221 (4 * g + 3) 0) := by
      rw [gdb_t (inb_nI (by omega) (by decide)), nm_k, ix43, gdb_t (inb_nI (by omega) (by decide)), nI_clamp (by omega), nm_k, gdb_t (inb_nI (by omega) (by decide)), rA_wAn (by decide), rA_wA, upd_s]
    by_cases q : nI l + 4 ≤ zo z g 3
    · rw [if_pos q] at hv
      rw [if_pos q, gdb_t (inb_nI (by omega) (by decide)), ← hv]
      try dsimp only
      exact fin
    · rw [if_neg q] at hv
      rw [if_neg q, ← hv]
      try dsimp only
      exact fin
  · -- a curse
    subst e
    obtain ⟨i1, i2⟩ := hci rfl
    subst i1 i2
    obtain ⟨x0, hx0, e0⟩ := (hz.2.1 g hg).2.2.2.2.2.2.2 c hc
    have r0 : rA M3 221 (4 * g + c) = nI x0 := by rw [hM3, rA_wAn (by decide)]; exact (h.2.1 g hg c hc).trans e0
    have hR : zdoR z f 3 (nI g) c (nI r) = if nI x0 ≤ nI r then nI r else nI x0 := by unfold zdoR; rw [if_neg (by decide), if_neg (by decide), if_neg (by decide), hcl, zcnt_o (by omega) (by omega), e0]
    have hZ : zdo z f 3 (nI g) c (nI r) = zl (zcnt z f) g (11 + c) (zdoR z f 3 (nI g) c (nI r)) := by unfold zdo; rw [if_neg (by decide), if_neg (by decide), if_neg (by decide), hcl]
    have hv : (if nI r ≤ nI x0 then nI x0 else nI r) = zdoR z f 3 (nI g) c (nI r) := by
      rw [hR]
      by_cases q : r ≤ x0
      · rw [if_pos (nI_le q (by omega))]
        by_cases q2 : x0 ≤ r
        · rw [if_pos (nI_le q2 (by omega)), show x0 = r by omega]
        · rw [if_neg (nI_ge (by omega) (by omega))]
      · rw [if_neg (show ¬ nI r ≤ nI x0 from nI_ge (by omega) (by omega)), if_pos (show nI x0 ≤ nI r from nI_le (by omega) (by omega))]
    have l3 : LRt (wA M3 221 (4 * g + c) (zdoR z f 3 (nI g) c (nI r))) (zdo z f 3 (nI g) c (nI r)) tv := by rw [hZ]; exact LRt_c (f := g) (j := c) l2 c1 (by rw [c2]; exact hg) hc
    refine ⟨wA M3 221 (4 * g + c) (zdoR z f 3 (nI g) c (nI r)), ?_, l3, LF_trans f0 (LF_A (by decide)), KF_trans k0 (KF_A ⟨by decide, Or.inl (by decide)⟩)⟩
    rw [if_pos (show ¬ (3 : Int32) = 0 by decide), if_pos (show ¬ (3 : Int32) = 1 by decide), if_pos (show ¬ (3 : Int32) = 2 by decide), ix4n, gdb_t (inb_nI (by omega) (by decide)), nI_clamp (by omega), r0, nm_k]
    by_cases q : nI r ≤ nI x0
    · rw [if_pos q] at hv
      rw [if_pos q, gdb_t (inb_nI (by omega) (by decide)), hv]
      try dsimp only
      rw [gdb_t (inb_nI (by omega) (by decide)), nm_k, gdb_t (inb_nI (by omega) (by decide)), rA_wA, upd_s]
    · rw [if_neg q] at hv
      rw [if_neg q]
      try dsimp only
      rw [gdb_t (inb_nI (by omega) (by decide)), nm_k, gdb_t (inb_nI (by omega) (by decide)), rA_wA, upd_s, ← hv]
