/-! the hash of it all: both sides -/
def mxn (g : Nat → Int64) : Nat → Nat → Int64 → Int64
  | 0, _, h => h
  | d + 1, i, h => mxn g d (i + 1) (31 * h + g i)
theorem with_eq {M : MS} {h v : Int64} : F_X4_with M h v = some (31 * h + v) := rfl
/-- what the model's hashing leaves as it was -/
def DQ (M M1 : MS) : Prop := (∀ c v, (c ≠ 88 ∨ v ≠ 220) → rF M1 c v = rF M c v) ∧ (∀ v, v ≠ 223 → v ≠ 225 → rA M1 v = rA M v) ∧ M1.2.2.1 = M.2.2.1 ∧ rO M1 = rO M
theorem DQ_refl {M : MS} : DQ M M := ⟨fun _ _ _ => rfl, fun _ _ _ => rfl, rfl, rfl⟩
theorem DQ_trans {M M1 M2 : MS} (h1 : DQ M M1) (h2 : DQ M1 M2) : DQ M M2 := ⟨fun c v h => (h2.1 c v h).trans (h1.1 c v h), fun v a b => (h2.2.1 v a b).trans (h1.2.1 v a b), h2.2.2.1.trans h1.2.2.1, h2.2.2.2.trans h1.2.2.2⟩
theorem DQ_LQ {M M1 : MS} (h : LQ M M1) : DQ M M1 := ⟨h.1, h.2.1, by rw [h.2.2], by unfold rO; rw [h.2.2]⟩
theorem DQ_H {M : MS} {x : Int64} : DQ M (wH M x) := ⟨fun _ _ _ => rfl, fun _ _ _ => rfl, rfl, rfl⟩
theorem CPart_DQ {M M1 : MS} (h : DQ M M1) : CPart M M1 := ⟨fun c v hv => h.1 c v (Or.inr hv), fun v hv => h.2.1 v (by omega) (by omega), fun i => by unfold rS; rw [h.2.2.1], h.2.2.2⟩
theorem MI_DQ {M M1 : MS} {z : Nat → Int32} {m t : Nat} {sv : Nat → Nat → Int32} {b : Nat → Int32} (h : MI M z m sv t b) (hc : DQ M M1) : MI M1 z m sv t b := by
  obtain ⟨a, b1, c1, d, e⟩ := h
  exact ⟨by rw [hc.2.1 221 (by omega) (by omega), a], by rw [hc.1 83 220 (by omega), b1], fun i hi j hj => by rw [hc.2.1 222 (by omega) (by omega), c1 i hi j hj], by rw [hc.1 86 220 (by omega), d], fun i hi => by rw [hc.2.1 224 (by omega) (by omega), e i hi]⟩
theorem mix_eq {M : MS} {v : Int64} : F_X5_mix M v = some (wH M (31 * rH M + v)) := rfl
theorem rH_LQ {M M1 : MS} (h : LQ M M1) : rH M1 = rH M := by unfold rH; rw [h.2.2]
theorem rH_wH {M : MS} {x : Int64} : rH (wH M x) = x := rfl
def g64 (x : Int32) : Int64 := Int32.toInt64 x
/-- what an act would bring, hashed -/
noncomputable def hwd (z : Nat → Int32) (kd x : Int32) (h : Int64) : Int64 := mxn (fun w => g64 (zwd z kd x w)) 4 0 h
theorem cwd_eq {M : MS} {z : Nat → Int32} {m : Nat} {sv : Nat → Nat → Int32} {t : Nat} {b : Nat → Int32} {h0 : Int64} {kd x : Int32} (h : CI M z m sv t b) (hp : PI z m sv t) (hx : xok z kd x) (hk : k4 kd) : ∃ M', F_X4_withIfDone M h0 kd x = some (hwd z kd x h0, M') ∧ CI M' z m sv t b ∧ MPart M M' ∧ rO M' = rO M := by
  obtain ⟨hz, ht, _⟩ := id hp
  rw [F_X4_withIfDone, ccx_l h.1 hz ht hx hk, bd_s]
  by_cases e : zcx z kd x = true
  · obtain ⟨e1, e2⟩ := zcx_t e
    have e2' : zpos z (z 2).toNatClampNeg kd x = true := e2
    obtain ⟨d1, d2, d3⟩ := TH_t hz ht e1
    obtain ⟨M3, g1, g2⟩ := scr_eq h hp
    obtain ⟨M5, R', k1, k2⟩ := cdx_s (c := 0) (r := 1) (a3 := 0) (a4 := 1) g2 hz ht hx hk (by decide) (by decide) (fun _ => ⟨rfl, rfl⟩) e
    have ht2 : rF M5 54 27 = zdA z kd x 0 1 2 := k2.2.1.1.2.2.1
    refine ⟨M5, ?_, CI_scr h hp k2, MPart_CFR k2.2.2.1 (by decide), by unfold rO; rw [k2.2.2.1.2.2]⟩
    rw [if_pos e, if_pos (by decide), with_eq, bd_s, cnum_eq hz h.1 d1 d2, bd_s, with_eq, bd_s, g1, bd_s, k1, bd2_s, nm_k]
    try dsimp only
    have hw0 : zwd z kd x 0 = 1 := by unfold zwd; rw [if_neg e1, if_pos e2', if_pos rfl]
    have hw1 : zwd z kd x 1 = nI (zsl z (ztn z) kd (zn z)).length := by unfold zwd; rw [if_neg e1, if_pos e2', if_neg (by decide), if_pos rfl]; rfl
    have hw2 : zwd z kd x 2 = if zdR z kd x 0 1 = -1 then 0 else 1 := by unfold zwd; rw [if_neg e1, if_pos e2', if_neg (by decide), if_neg (by decide), if_pos rfl]; rfl
    have hw3 : zwd z kd x 3 = zdA z kd x 0 1 2 := by unfold zwd; rw [if_neg e1, if_pos e2', if_neg (by decide), if_neg (by decide), if_neg (by decide)]; rfl
    have hh : hwd z kd x h0 = 31 * (31 * (31 * (31 * h0 + g64 (zwd z kd x 0)) + g64 (zwd z kd x 1)) + g64 (zwd z kd x 2)) + g64 (zwd z kd x 3) := rfl
    rw [hh, hw0, hw1, hw2, hw3]
    by_cases q : zdR z kd x 0 1 = -1
    · rw [if_neg (fun r => r q), nm_k, if_neg (by decide)]
      try dsimp only
      rw [with_eq, bd_s, with_eq, bd_s, ht2, if_pos q]
      rfl
    · rw [if_pos q, nm_k, if_pos rfl]
      try dsimp only
      rw [with_eq, bd_s, with_eq, bd_s, ht2, if_neg q]
      rfl
  · refine ⟨M, ?_, h, MPart_refl, rfl⟩
    rw [if_neg e, if_neg (by decide), with_eq, bd_s, with_eq, bd_s, with_eq, bd_s, with_eq, bd_s]
    have hn : ∀ w, zwd z kd x w = if w = 0 then 0 else -1 := by
      intro w
      unfold zwd
      by_cases e1 : z 2 = -1
      · rw [if_pos e1]
      · rw [if_neg e1, if_neg (fun q => e (by unfold zcx ztn; simp [e1, q]))]
    have hh : hwd z kd x h0 = 31 * (31 * (31 * (31 * h0 + g64 (zwd z kd x 0)) + g64 (zwd z kd x 1)) + g64 (zwd z kd x 2)) + g64 (zwd z kd x 3) := rfl
    rw [hh, hn, hn, hn, hn]
    rfl
theorem mwd_l {z : Nat → Int32} {kd x : Int32} (hz : ZW z) (ht : TH z) (hx : xok z kd x) : ∀ d w k (M : MS), w + d = 4 → d < k → rA M 221 = z → ∃ M', F_X5_mixDone_l2 kd x k (nI w) M = some M' ∧ DQ M M' ∧ rH M' = mxn (fun w => g64 (zwd z kd x w)) d w (rH M) := by
  intro d
  induction d with
  | zero =>
    intro w k M hw hk hm
    obtain ⟨k, rfl⟩ : ∃ q, k = q + 1 := ⟨k - 1, by omega⟩
    rw [F_X5_mixDone_l2, if_pos (show (3 : Int32) < nI w from nI_lt (a := 3) (by omega) (by omega))]
    exact ⟨M, rfl, DQ_refl, rfl⟩
  | succ d ih =>
    intro w k M hw hk hm
    obtain ⟨k, rfl⟩ : ∃ q, k = q + 1 := ⟨k - 1, by omega⟩
    obtain ⟨M5, g1, g2⟩ := mwd_eq (M := M) (kd := kd) (x := x) (w := w) (by rw [hm]; exact hz) (by rw [hm]; exact ht) (by rw [hm]; exact hx) (by omega)
    rw [F_X5_mixDone_l2, if_neg (show ¬ (3 : Int32) < nI w from nI_nlt (a := 3) (by omega) (by decide)), g1, bd2_s]
    try dsimp only
    rw [mix_eq, bd_s, nm_k, nI_1]
    obtain ⟨M', k1, k2, k3⟩ := ih (w + 1) k (wH M5 (31 * rH M5 + Int32.toInt64 (zwd (rA M 221) kd x w))) (by omega) (by omega) (by show rA M5 221 = z; rw [g2.2.1 221 (by omega) (by omega)]; exact hm)
    refine ⟨M', k1, DQ_trans (DQ_trans (DQ_LQ g2) DQ_H) k2, ?_⟩
    rw [k3, rH_wH, rH_LQ g2, hm]
    rfl
theorem mwdn_eq {M : MS} {z : Nat → Int32} {kd x : Int32} (hm : rA M 221 = z) (hz : ZW z) (ht : TH z) (hx : xok z kd x) : ∃ M', F_X5_mixDone M kd x = some M' ∧ DQ M M' ∧ rH M' = hwd z kd x (rH M) := by
  rw [F_X5_mixDone]
  exact mwd_l hz ht hx 4 0 FU M (by omega) (by rw [FU_s]; omega) hm
/-- a fighter, hashed -/
def hf1 (z : Nat → Int32) (f : Nat) (h : Int64) : Int64 := mxn (fun w => g64 (zo z f (7 + w))) 4 0 (mxn (fun w => g64 (ztold z f w)) 14 0 h)
theorem cwf2 {M : MS} {z : Nat → Int32} {f : Nat} (h : CZ M 0 z) (hz : ZW z) (hf : f < zn z) : ∀ d w k (h0 : Int64), w + d = 4 → d < k → F_X4_withFighter_l40 (nI f) M k h0 (nI w) = some (mxn (fun w => g64 (zo z f (7 + w))) d w h0) := by
  intro d
  induction d with
  | zero =>
    intro w k h0 hw hk
    obtain ⟨k, rfl⟩ : ∃ q, k = q + 1 := ⟨k - 1, by omega⟩
    rw [F_X4_withFighter_l40, if_pos (show (3 : Int32) < nI w from nI_lt (a := 3) (by omega) (by omega))]
    rfl
  | succ d ih =>
    intro w k h0 hw hk
    obtain ⟨k, rfl⟩ : ∃ q, k = q + 1 := ⟨k - 1, by omega⟩
    rw [F_X4_withFighter_l40, if_neg (show ¬ (3 : Int32) < nI w from nI_nlt (a := 3) (by omega) (by decide)), at_l hz.1 h hf, bd_s, ofr_l h hf (by omega), bd_s, with_eq, bd_s, nm_k, nI_1, ih (w + 1) k _ (by omega) (by omega)]
    rfl
theorem cwf1 {M : MS} {z : Nat → Int32} {f : Nat} (h : CZ M 0 z) (hz : ZW z) (hf : f < zn z) : ∀ d w k (h0 : Int64), w + d = 14 → d < k → F_X4_withFighter_l6 (nI f) M k h0 (nI w) = some (mxn (fun w => g64 (zo z f (7 + w))) 4 0 (mxn (fun w => g64 (ztold z f w)) d w h0)) := by
  intro d
  induction d with
  | zero =>
    intro w k h0 hw hk
    obtain ⟨k, rfl⟩ : ∃ q, k = q + 1 := ⟨k - 1, by omega⟩
    rw [F_X4_withFighter_l6, if_pos (show (13 : Int32) < nI w from nI_lt (a := 13) (by omega) (by omega)), mxn]
    exact cwf2 h hz hf 4 0 FU h0 (by omega) (by rw [FU_s]; omega)
  | succ d ih =>
    intro w k h0 hw hk
    obtain ⟨k, rfl⟩ : ∃ q, k = q + 1 := ⟨k - 1, by omega⟩
    rw [F_X4_withFighter_l6, if_neg (show ¬ (13 : Int32) < nI w from nI_nlt (a := 13) (by omega) (by decide)), prop_l h hz hf (by omega), bd_s, with_eq, bd_s, nm_k, nI_1, ih (w + 1) k _ (by omega) (by omega)]
    rfl
noncomputable def hf2 (z : Nat → Int32) (f : Nat) (h : Int64) : Int64 := hwd z 3 (nI f) (hwd z 2 (nI f) (hwd z 0 (nI f) (hf1 z f h)))
theorem mwf2 {z : Nat → Int32} {f : Nat} (hz : ZW z) (ht : TH z) (hf : f < zn z) : ∀ d w k (M : MS), w + d = 4 → d < k → rA M 221 = z → ∃ M', F_X5_mixFighter_l27 (nI f) k (nI w) M = some M' ∧ DQ M M' ∧ rH M' = hwd z 3 (nI f) (hwd z 2 (nI f) (hwd z 0 (nI f) (mxn (fun w => g64 (zo z f (7 + w))) d w (rH M)))) := by
  have hb := hz.1.2.1
  intro d
  induction d with
  | zero =>
    intro w k M hw hk hm
    obtain ⟨k, rfl⟩ : ∃ q, k = q + 1 := ⟨k - 1, by omega⟩
    rw [F_X5_mixFighter_l27, if_pos (show (3 : Int32) < nI w from nI_lt (a := 3) (by omega) (by omega))]
    obtain ⟨M1, a1, a2, a3⟩ := mwdn_eq (kd := 0) (x := nI f) hm hz ht (Or.inr ⟨by decide, f, hf, rfl⟩)
    have hm1 : rA M1 221 = z := by rw [a2.2.1 221 (by omega) (by omega)]; exact hm
    obtain ⟨M2, b1, b2, b3⟩ := mwdn_eq (kd := 2) (x := nI f) hm1 hz ht (Or.inr ⟨by decide, f, hf, rfl⟩)
    have hm2 : rA M2 221 = z := by rw [b2.2.1 221 (by omega) (by omega)]; exact hm1
    obtain ⟨M3, c1, c2, c3⟩ := mwdn_eq (kd := 3) (x := nI f) hm2 hz ht (Or.inr ⟨by decide, f, hf, rfl⟩)
    rw [a1, bd_s, b1, bd_s, c1, bd_s]
    exact ⟨M3, rfl, DQ_trans (DQ_trans a2 b2) c2, by rw [c3, b3, a3]; rfl⟩
  | succ d ih =>
    intro w k M hw hk hm
    obtain ⟨k, rfl⟩ : ∃ q, k = q + 1 := ⟨k - 1, by omega⟩
    have hx : (7 : Int32) + nI w = nI (7 + w) := by rw [nI_lit 7, nI_add]
    rw [F_X5_mixFighter_l27, if_neg (show ¬ (3 : Int32) < nI w from nI_nlt (a := 3) (by omega) (by decide)), of_eq (f := f) (w := 7 + w) (by omega) (by omega) hx, bd_s, mix_eq, bd_s, nm_k, nI_1]
    obtain ⟨M', k1, k2, k3⟩ := ih (w + 1) k (wH M (31 * rH M + Int32.toInt64 (zo (rA M 221) f (7 + w)))) (by omega) (by omega) hm
    refine ⟨M', k1, DQ_trans DQ_H k2, ?_⟩
    rw [k3, rH_wH, hm]
    rfl
theorem mwf1 {z : Nat → Int32} {f : Nat} (hz : ZW z) (ht : TH z) (hf : f < zn z) : ∀ d w k (M : MS), w + d = 14 → d < k → rA M 221 = z → ∃ M', F_X5_mixFighter_l2 (nI f) k (nI w) M = some M' ∧ DQ M M' ∧ rH M' = hwd z 3 (nI f) (hwd z 2 (nI f) (hwd z 0 (nI f) (mxn (fun w => g64 (zo z f (7 + w))) 4 0 (mxn (fun w => g64 (ztold z f w)) d w (rH M))))) := by
  intro d
  induction d with
  | zero =>
    intro w k M hw hk hm
    obtain ⟨k, rfl⟩ : ∃ q, k = q + 1 := ⟨k - 1, by omega⟩
    rw [F_X5_mixFighter_l2, if_pos (show (13 : Int32) < nI w from nI_lt (a := 13) (by omega) (by omega)), mxn]
    exact mwf2 hz ht hf 4 0 FU M (by omega) (by rw [FU_s]; omega) hm
  | succ d ih =>
    intro w k M hw hk hm
    obtain ⟨k, rfl⟩ : ∃ q, k = q + 1 := ⟨k - 1, by omega⟩
    rw [F_X5_mixFighter_l2, if_neg (show ¬ (13 : Int32) < nI w from nI_nlt (a := 13) (by omega) (by decide)), told_eq (f := f) (w := w) (by rw [hm]; exact hz.1) (by rw [hm]; exact hf) (by omega), bd_s, mix_eq, bd_s, nm_k, nI_1]
    obtain ⟨M', k1, k2, k3⟩ := ih (w + 1) k (wH M (31 * rH M + Int32.toInt64 (ztold (rA M 221) f w))) (by omega) (by omega) hm
    refine ⟨M', k1, DQ_trans DQ_H k2, ?_⟩
    rw [k3, rH_wH, hm]
    rfl
/-- the fighters, hashed -/
noncomputable def hfs (z : Nat → Int32) : Nat → Nat → Int64 → Int64
  | 0, _, h => h
  | d + 1, f, h => hfs z d (f + 1) (hf2 z f h)
theorem cfs_l {z : Nat → Int32} {m : Nat} {sv : Nat → Nat → Int32} {t : Nat} {b : Nat → Int32} (hp : PI z m sv t) : ∀ d f k (h0 : Int64) (M : MS), f + d = zn z → d < k → CI M z m sv t b → ∃ M', F_X4_digest_l31 k h0 (nI f) M = F_X4_digest_l81 M' FU (hfs z d f h0) 0 ∧ CI M' z m sv t b ∧ MPart M M' ∧ rO M' = rO M := by
  obtain ⟨hz, ht, _⟩ := id hp
  have hb := hz.1.2.1
  intro d
  induction d with
  | zero =>
    intro f k h0 M hf hk h
    obtain ⟨k, rfl⟩ : ∃ q, k = q + 1 := ⟨k - 1, by omega⟩
    rw [F_X4_digest_l31, h.1.1.1, if_pos ((z0_le hz.1 (by omega)).mpr (by omega))]
    exact ⟨M, rfl, h, MPart_refl, rfl⟩
  | succ d ih =>
    intro f k h0 M hf hk h
    obtain ⟨k, rfl⟩ : ∃ q, k = q + 1 := ⟨k - 1, by omega⟩
    have hfz : f < zn z := by omega
    obtain ⟨M1, a1, a2, a3, a4⟩ := cwd_eq (h0 := hf1 z f h0) (kd := 0) (x := nI f) h hp (Or.inr ⟨by decide, f, hfz, rfl⟩) (Or.inl rfl)
    obtain ⟨M2, b1, b2, b3, b4⟩ := cwd_eq (h0 := hwd z 0 (nI f) (hf1 z f h0)) (kd := 2) (x := nI f) a2 hp (Or.inr ⟨by decide, f, hfz, rfl⟩) (Or.inr (Or.inr (Or.inl rfl)))
    obtain ⟨M3, c1, c2, c3, c4⟩ := cwd_eq (h0 := hwd z 2 (nI f) (hwd z 0 (nI f) (hf1 z f h0))) (kd := 3) (x := nI f) b2 hp (Or.inr ⟨by decide, f, hfz, rfl⟩) (Or.inr (Or.inr (Or.inr rfl)))
    have hwf : F_X4_withFighter M h0 (nI f) = some (hf1 z f h0) := by
      rw [F_X4_withFighter]
      exact cwf1 h.1 hz hfz 14 0 FU h0 (by omega) (by rw [FU_s]; omega)
    rw [F_X4_digest_l31, h.1.1.1, if_neg (fun q => by have := (z0_le hz.1 (by omega)).mp q; omega), hwf, bd_s, a1, bd2_s]
    try dsimp only
    rw [b1, bd2_s]
    try dsimp only
    rw [c1, bd2_s]
    try dsimp only
    rw [nm_k, nI_1]
    obtain ⟨M', k1, k2, k3, k4⟩ := ih (f + 1) k (hwd z 3 (nI f) (hwd z 2 (nI f) (hwd z 0 (nI f) (hf1 z f h0)))) M3 (by omega) (by omega) c2
    exact ⟨M', k1, k2, MPart_trans (MPart_trans (MPart_trans a3 b3) c3) k3, k4.trans (c4.trans (b4.trans a4))⟩
theorem mfs_l {z : Nat → Int32} (hz : ZW z) (ht : TH z) : ∀ d f k (M : MS), f + d = zn z → d < k → rA M 221 = z → ∃ M', F_X5_digest_l38 k (nI f) M = F_X5_digest_l61 FU 0 M' ∧ DQ M M' ∧ rH M' = hfs z d f (rH M) := by
  have hb := hz.1.2.1
  intro d
  induction d with
  | zero =>
    intro f k M hf hk hm
    obtain ⟨k, rfl⟩ : ∃ q, k = q + 1 := ⟨k - 1, by omega⟩
    rw [F_X5_digest_l38, gd0, tn0, hm, if_pos ((z0_le hz.1 (by omega)).mpr (by omega))]
    exact ⟨M, rfl, DQ_refl, rfl⟩
  | succ d ih =>
    intro f k M hf hk hm
    obtain ⟨k, rfl⟩ : ∃ q, k = q + 1 := ⟨k - 1, by omega⟩
    obtain ⟨M1, a1, a2, a3⟩ := mwf1 hz ht (show f < zn z by omega) 14 0 FU M (by omega) (by rw [FU_s]; omega) hm
    have a1' : F_X5_mixFighter M (nI f) = some M1 := by rw [F_X5_mixFighter]; exact a1
    have hm1 : rA M1 221 = z := by rw [a2.2.1 221 (by omega) (by omega)]; exact hm
    rw [F_X5_digest_l38, gd0, tn0, hm, if_neg (fun q => by have := (z0_le hz.1 (by omega)).mp q; omega), a1', bd_s, nm_k, nI_1]
    obtain ⟨M', k1, k2, k3⟩ := ih (f + 1) k M1 (by omega) (by omega) hm1
    exact ⟨M', k1, DQ_trans a2 k2, by rw [k3, a3]; rfl⟩
/-- the counts, hashed -/
theorem ccs_l {M : MS} {z : Nat → Int32} {mi : Int32} (h : CZ M 0 z) (hz : ZW z) (hm : rF M 67 216 = mi) : ∀ d i k (h0 : Int64), i + d = 13 → d < k → F_X4_digest_l6 M k h0 (nI i) = F_X4_digest_l31 FU (mxn (fun w => g64 (zcount z mi w)) d i h0) 0 M := by
  intro d
  induction d with
  | zero =>
    intro i k h0 hi hk
    obtain ⟨k, rfl⟩ : ∃ q, k = q + 1 := ⟨k - 1, by omega⟩
    rw [F_X4_digest_l6, if_pos (show (12 : Int32) < nI i from nI_lt (a := 12) (by omega) (by omega))]
    rfl
  | succ d ih =>
    intro i k h0 hi hk
    obtain ⟨k, rfl⟩ : ∃ q, k = q + 1 := ⟨k - 1, by omega⟩
    rw [F_X4_digest_l6, if_neg (show ¬ (12 : Int32) < nI i from nI_nlt (a := 12) (by omega) (by decide)), ccount_l h hz (by omega), bd_s, with_eq, bd_s, nm_k, nI_1, hm, ih (i + 1) k _ (by omega) (by omega)]
    rfl
theorem mcs_l {z : Nat → Int32} {mi : Int32} (hz : ZW z) : ∀ d i k (M : MS), i + d = 13 → d < k → rA M 221 = z → rF M 83 220 = mi → ∃ M', F_X5_digest_l14 k (nI i) M = F_X5_digest_l38 FU 0 M' ∧ DQ M M' ∧ rH M' = mxn (fun w => g64 (zcount z mi w)) d i (rH M) := by
  intro d
  induction d with
  | zero =>
    intro i k M hi hk hm h83
    obtain ⟨k, rfl⟩ : ∃ q, k = q + 1 := ⟨k - 1, by omega⟩
    rw [F_X5_digest_l14, if_pos (show (12 : Int32) < nI i from nI_lt (a := 12) (by omega) (by omega))]
    exact ⟨M, rfl, DQ_refl, rfl⟩
  | succ d ih =>
    intro i k M hi hk hm h83
    obtain ⟨k, rfl⟩ : ∃ q, k = q + 1 := ⟨k - 1, by omega⟩
    rw [F_X5_digest_l14, if_neg (show ¬ (12 : Int32) < nI i from nI_nlt (a := 12) (by omega) (by decide)), mcount_eq (by rw [hm]; exact hz) (by omega), bd_s, mix_eq, bd_s, nm_k, nI_1]
    obtain ⟨M', k1, k2, k3⟩ := ih (i + 1) k (wH M (31 * rH M + Int32.toInt64 (zcount (rA M 221) (rF M 83 220) i))) (by omega) (by omega) hm h83
    exact ⟨M', k1, DQ_trans DQ_H k2, by rw [k3, rH_wH, hm, h83]; rfl⟩
/-- the row, hashed -/
def zra (z : Nat → Int32) (i : Nat) : Int32 := if i < zn z then z (6 + i) else -1
theorem cra_l {M : MS} {z : Nat → Int32} (h : CZ M 0 z) (hz : ZW z) : ∀ d i k (h0 : Int64), i + d = 10 → d < k → ∃ k', F_X4_digest_l81 M k h0 (nI i) = F_X4_digest_l81 M (k' + 1) (mxn (fun w => g64 (zra z w)) d i h0) (nI 10) := by
  have hb := hz.1.2.1
  intro d
  induction d with
  | zero =>
    intro i k h0 hi hk
    obtain ⟨k, rfl⟩ : ∃ q, k = q + 1 := ⟨k - 1, by omega⟩
    have : i = 10 := by omega
    subst this
    exact ⟨k, rfl⟩
  | succ d ih =>
    intro i k h0 hi hk
    obtain ⟨k, rfl⟩ : ∃ q, k = q + 1 := ⟨k - 1, by omega⟩
    have hn : F_X2_numberAt M (0 + 2) (nI i) = some (zra z i) := by
      unfold zra
      by_cases q : i < zn z
      · rw [if_pos q]; exact nat_l hz.1 h q
      · rw [if_neg q]; exact nat_no h ((z0_le hz.1 (by omega)).mpr (by omega))
    obtain ⟨k', hk'⟩ := ih (i + 1) k (31 * h0 + Int32.toInt64 (zra z i)) (by omega) (by omega)
    refine ⟨k', ?_⟩
    rw [F_X4_digest_l81, if_neg (show ¬ (10 : Int32) ≤ nI i from nI_ge (b := 10) (by omega) (by decide)), hn, bd_s, with_eq, bd_s, nm_k, nI_1, hk']
    rfl
theorem mra_l {z : Nat → Int32} (hz : ZW z) : ∀ d i k (M : MS), i + d = 10 → d < k → rA M 221 = z → ∃ M' k', F_X5_digest_l61 k (nI i) M = F_X5_digest_l61 (k' + 1) (nI 10) M' ∧ DQ M M' ∧ rH M' = mxn (fun w => g64 (zra z w)) d i (rH M) := by
  have hb := hz.1.2.1
  intro d
  induction d with
  | zero =>
    intro i k M hi hk hm
    obtain ⟨k, rfl⟩ : ∃ q, k = q + 1 := ⟨k - 1, by omega⟩
    have : i = 10 := by omega
    subst this
    exact ⟨M, k, rfl, DQ_refl, rfl⟩
  | succ d ih =>
    intro i k M hi hk hm
    obtain ⟨k, rfl⟩ : ∃ q, k = q + 1 := ⟨k - 1, by omega⟩
    have hn : F_X5_rowAt M (nI i) = some (zra z i) := by
      unfold zra
      by_cases q : i < zn z
      · rw [if_pos q, mrow_l (by rw [hm]; exact hz.1) (by rw [hm]; exact q), hm]
      · rw [if_neg q]; exact mrow_no (by rw [hm]; exact (z0_le hz.1 (by omega)).mpr (by omega))
    rw [F_X5_digest_l61, if_neg (show ¬ (9 : Int32) < nI i from nI_nlt (a := 9) (by omega) (by decide)), hn, bd_s, mix_eq, bd_s, nm_k, nI_1]
    obtain ⟨M', k', k1, k2, k3⟩ := ih (i + 1) k (wH M (31 * rH M + Int32.toInt64 (zra z i))) (by omega) (by omega) hm
    exact ⟨M', k', k1, DQ_trans DQ_H k2, by rw [k3, rH_wH]; rfl⟩
/-- turns that end, hashed -/
theorem cwe_l {M0 : MS} {z : Nat → Int32} {R : Nat → Int32} (hz : ZW z) (ht : TH z) : ∀ d i k (h0 : Int64) (M : MS), i + d = 13 → 1 ≤ i → d < k → CR M0 27 R M (zes z (i - 1)) → ∃ M', F_X4_withIfEnded_l27 k h0 (nI i) M = some (mxn (fun w => g64 (zes z w 2)) d i h0, M') ∧ CR M0 27 R M' (zes z 12) := by
  intro d
  induction d with
  | zero =>
    intro i k h0 M hi h1 hk h
    obtain ⟨k, rfl⟩ : ∃ q, k = q + 1 := ⟨k - 1, by omega⟩
    have : i = 13 := by omega
    subst this
    rw [F_X4_withIfEnded_l27, if_pos (show (12 : Int32) < nI 13 by decide)]
    exact ⟨M, rfl, h⟩
  | succ d ih =>
    intro i k h0 M hi h1 hk h
    obtain ⟨k, rfl⟩ : ∃ q, k = q + 1 := ⟨k - 1, by omega⟩
    obtain ⟨i, rfl⟩ : ∃ q, i = q + 1 := ⟨i - 1, by omega⟩
    obtain ⟨M2, g1, g2⟩ := cends_l hz ht h
    rw [F_X4_withIfEnded_l27, if_neg (show ¬ (12 : Int32) < nI (i + 1) from nI_nlt (a := 12) (by omega) (by decide)), g1, bd_s, with_eq, bd_s, nm_k, nI_1, show rF M2 54 27 = zes z (i + 1) 2 from g2.2.1.1.2.2.1]
    obtain ⟨M', k1, k2⟩ := ih (i + 1 + 1) k (31 * h0 + Int32.toInt64 (zes z (i + 1) 2)) M2 (by omega) (by omega) (by omega) g2
    exact ⟨M', k1, k2⟩
theorem cwe_eq {M : MS} {z : Nat → Int32} {m : Nat} {sv : Nat → Nat → Int32} {t : Nat} {b : Nat → Int32} {h0 : Int64} (h : CI M z m sv t b) (hp : PI z m sv t) : ∃ M', F_X4_withIfEnded M h0 = some (mxn (fun w => g64 (zes z w 2)) 13 0 h0, M') ∧ CI M' z m sv t b ∧ MPart M M' ∧ rO M' = rO M := by
  obtain ⟨hz, ht, _⟩ := id hp
  obtain ⟨M3, g1, g2⟩ := scr_eq h hp
  obtain ⟨M', k1, k2⟩ := cwe_l hz ht 12 1 FU (31 * h0 + Int32.toInt64 (rF M3 54 27)) M3 (by omega) (by omega) (by rw [FU_s]; omega) g2
  refine ⟨M', ?_, CI_scr h hp k2, MPart_CFR k2.2.2.1 (by decide), by unfold rO; rw [k2.2.2.1.2.2]⟩
  rw [F_X4_withIfEnded, g1, bd_s, with_eq, bd_s]
  refine k1.trans ?_
  rw [show rF M3 54 27 = zes z 0 2 from g2.2.1.1.2.2.1]
  rfl
theorem mwes_l {z : Nat → Int32} (hz : ZW z) (ht : TH z) : ∀ d i k (M : MS), i + d = 13 → d < k → rA M 221 = z → ∃ M' k', F_X5_digest_l91 k (nI i) M = F_X5_digest_l91 (k' + 1) (nI 13) M' ∧ DQ M M' ∧ rH M' = mxn (fun w => g64 (zes z w 2)) d i (rH M) := by
  intro d
  induction d with
  | zero =>
    intro i k M hi hk hm
    obtain ⟨k, rfl⟩ : ∃ q, k = q + 1 := ⟨k - 1, by omega⟩
    have : i = 13 := by omega
    subst this
    exact ⟨M, k, rfl, DQ_refl, rfl⟩
  | succ d ih =>
    intro i k M hi hk hm
    obtain ⟨k, rfl⟩ : ∃ q, k = q + 1 := ⟨k - 1, by omega⟩
    obtain ⟨M1, g1, g2⟩ := mwe_eq (M := M) (n := i) (by rw [hm]; exact hz) (by rw [hm]; exact ht) (by omega)
    have hm1 : rA M1 221 = z := by rw [g2.2.1 221 (by omega) (by omega)]; exact hm
    rw [F_X5_digest_l91, if_neg (show ¬ (12 : Int32) < nI i from nI_nlt (a := 12) (by omega) (by decide)), g1, bd2_s]
    try dsimp only
    rw [mix_eq, bd_s, nm_k, nI_1]
    obtain ⟨M', k', k1, k2, k3⟩ := ih (i + 1) k (wH M1 (31 * rH M1 + Int32.toInt64 (zes (rA M 221) i 2))) (by omega) (by omega) hm1
    exact ⟨M', k', k1, DQ_trans (DQ_trans (DQ_LQ g2) DQ_H) k2, by rw [k3, rH_wH, rH_LQ g2, hm]; rfl⟩
/-- the text, hashed -/
theorem ctx_l {M : MS} {t : Nat} {b : Nat → Int32} (h : CT M t b) (h60 : t ≤ 60) : ∀ d i k (h0 : Int64), i + d = t → d < k → F_X4_digest_l161 M k h0 (nI i) = some (mxn (fun w => g64 (b w)) d i h0, M) := by
  intro d
  induction d with
  | zero =>
    intro i k h0 hi hk
    obtain ⟨k, rfl⟩ : ∃ q, k = q + 1 := ⟨k - 1, by omega⟩
    rw [F_X4_digest_l161, h.1, if_pos (nI_le (by omega) (by omega))]
    rfl
  | succ d ih =>
    intro i k h0 hi hk
    obtain ⟨k, rfl⟩ : ∃ q, k = q + 1 := ⟨k - 1, by omega⟩
    rw [F_X4_digest_l161, h.1, if_neg (nI_ge (by omega) (by omega)), code_l h h60 (by omega), bd_s, with_eq, bd_s, nm_k, nI_1, ih (i + 1) k _ (by omega) (by omega)]
    rfl
theorem mtx_l {t : Nat} {b : Nat → Int32} (h60 : t ≤ 60) : ∀ d i k (M : MS), i + d = t → d < k → MT M t b → ∃ M', F_X5_digest_l144 k (nI i) M = some (mxn (fun w => g64 (b w)) d i (rH M), M') ∧ DQ M M' := by
  intro d
  induction d with
  | zero =>
    intro i k M hi hk h
    obtain ⟨k, rfl⟩ : ∃ q, k = q + 1 := ⟨k - 1, by omega⟩
    rw [F_X5_digest_l144, h.1, if_pos (nI_le (by omega) (by omega))]
    exact ⟨M, rfl, DQ_refl⟩
  | succ d ih =>
    intro i k M hi hk h
    obtain ⟨k, rfl⟩ : ∃ q, k = q + 1 := ⟨k - 1, by omega⟩
    rw [F_X5_digest_l144, h.1, if_neg (nI_ge (by omega) (by omega)), gdb_t (inb_nI (by omega) (by omega)), nI_clamp (by omega), h.2 i (by omega), mix_eq, bd_s, nm_k, nI_1]
    obtain ⟨M', k1, k2⟩ := ih (i + 1) k (wH M (31 * rH M + Int32.toInt64 (b i))) (by omega) (by omega) h
    exact ⟨M', k1, DQ_trans DQ_H k2⟩
/-- the whole hash -/
noncomputable def hpre (z : Nat → Int32) (m : Nat) : Int64 := mxn (fun w => g64 (zes z w 2)) 13 0 (hwd z 1 5 (mxn (fun w => g64 (zra z w)) 10 0 (hfs z (zn z) 0 (mxn (fun w => g64 (zcount z (nI m) w)) 13 0 2767))))
noncomputable def hall (z : Nat → Int32) (m t : Nat) (b : Nat → Int32) (v : Int64) : Int64 := mxn (fun w => g64 (b w)) t 0 (31 * (31 * (31 * hpre z m + g64 (zbest z)) + v) + g64 (nI t))
theorem cdig_eq {M : MS} {z : Nat → Int32} {m : Nat} {sv : Nat → Nat → Int32} {t : Nat} {b : Nat → Int32} {v : Int64} (h : CI M z m sv t b) (hp : PI z m sv t) (hv : ∀ M, F_X4_bitsOf M (zshare z) = some v) : ∃ M', F_X4_digest M = some (hall z m t b v, M') ∧ CI M' z m sv t b ∧ MPart M M' ∧ rO M' = rO M := by
  obtain ⟨hz, ht, _, _, h60⟩ := id hp
  have hb := hz.1.2.1
  obtain ⟨M1, a1, a2, a3, a4⟩ := cfs_l hp (zn z) 0 FU (mxn (fun w => g64 (zcount z (nI m) w)) 13 0 2767) M (by omega) (by rw [FU_s]; omega) h
  obtain ⟨k', b1⟩ := cra_l a2.1 hz 10 0 FU (hfs z (zn z) 0 (mxn (fun w => g64 (zcount z (nI m) w)) 13 0 2767)) (by omega) (by rw [FU_s]; omega)
  obtain ⟨M2, c1, c2, c3, c4⟩ := cwd_eq (h0 := mxn (fun w => g64 (zra z w)) 10 0 (hfs z (zn z) 0 (mxn (fun w => g64 (zcount z (nI m) w)) 13 0 2767))) (kd := 1) (x := 5) a2 hp (Or.inl ⟨rfl, 5, by decide, rfl⟩) (Or.inr (Or.inl rfl))
  obtain ⟨M3, d1, d2, d3, d4⟩ := cwe_eq (h0 := hwd z 1 5 (mxn (fun w => g64 (zra z w)) 10 0 (hfs z (zn z) 0 (mxn (fun w => g64 (zcount z (nI m) w)) 13 0 2767)))) c2 hp
  obtain ⟨M4, e1, e2, e3, e4⟩ := cbest_eq d2 hp
  have hct : CT M4 t b := e2.2.2.2.2.1
  refine ⟨M4, ?_, e2, MPart_trans (MPart_trans (MPart_trans a3 c3) d3) e3, e4.trans (d4.trans (c4.trans a4))⟩
  have a1' : F_X4_digest_l31 FU (mxn (fun w => g64 (zcount z (nI m) w)) 13 0 2767) 0 M = _ := a1
  have b1' : F_X4_digest_l81 M1 FU (hfs z (zn z) 0 (mxn (fun w => g64 (zcount z (nI m) w)) 13 0 2767)) 0 = _ := b1
  rw [F_X4_digest, show F_X4_digest_l6 M FU 2767 0 = _ from ccs_l h.1 hz h.2.1 13 0 FU 2767 (by omega) (by rw [FU_s]; omega), a1', b1', F_X4_digest_l81, if_pos (show (10 : Int32) ≤ nI 10 by decide), c1, bd2_s]
  try dsimp only
  rw [d1, bd2_s]
  try dsimp only
  rw [e1, bd2_s]
  try dsimp only
  rw [with_eq, bd_s, cshare_l e2.1 hz, bd_s, hv, bd_s, with_eq, bd_s, with_eq, bd_s, hct.1]
  exact ctx_l hct h60 t 0 FU _ (by omega) (by rw [FU_s]; omega)
theorem mdig_eq {M : MS} {z : Nat → Int32} {m : Nat} {sv : Nat → Nat → Int32} {t : Nat} {b : Nat → Int32} {v : Int64} (h : MI M z m sv t b) (hp : PI z m sv t) (hv : ∀ M, F_X5_bitsOf M (zshare z) = some v) : ∃ M', F_X5_digest M = some (hall z m t b v, M') ∧ MI M' z m sv t b ∧ CPart M M' := by
  obtain ⟨hz, ht, _, _, h60⟩ := id hp
  have hb := hz.1.2.1
  obtain ⟨N0, hN0⟩ : ∃ N0, wH (wF M 80 220 0) 2767 = N0 := ⟨_, rfl⟩
  have hm0 : rA N0 221 = z := by rw [← hN0]; exact h.1
  have h83 : rF N0 83 220 = nI m := by rw [← hN0]; exact h.2.1
  have hmt0 : MT N0 t b := by rw [← hN0]; exact ⟨h.2.2.2.1, h.2.2.2.2⟩
  have hr0 : rH N0 = 2767 := by rw [← hN0]; rfl
  obtain ⟨M1, a1, a2, a3⟩ := mcs_l (mi := nI m) hz 13 0 FU N0 (by omega) (by rw [FU_s]; omega) hm0 h83
  have hm1 : rA M1 221 = z := by rw [a2.2.1 221 (by omega) (by omega)]; exact hm0
  obtain ⟨M2, b1, b2, b3⟩ := mfs_l hz ht (zn z) 0 FU M1 (by omega) (by rw [FU_s]; omega) hm1
  have hm2 : rA M2 221 = z := by rw [b2.2.1 221 (by omega) (by omega)]; exact hm1
  obtain ⟨M3, k3, c1, c2, c3⟩ := mra_l hz 10 0 FU M2 (by omega) (by rw [FU_s]; omega) hm2
  have hm3 : rA M3 221 = z := by rw [c2.2.1 221 (by omega) (by omega)]; exact hm2
  obtain ⟨M4, d1, d2, d3⟩ := mwdn_eq (kd := 1) (x := 5) hm3 hz ht (Or.inl ⟨rfl, 5, by decide, rfl⟩)
  have hm4 : rA M4 221 = z := by rw [d2.2.1 221 (by omega) (by omega)]; exact hm3
  obtain ⟨M5, k5, e1, e2, e3⟩ := mwes_l hz ht 13 0 FU M4 (by omega) (by rw [FU_s]; omega) hm4
  have hm5 : rA M5 221 = z := by rw [e2.2.1 221 (by omega) (by omega)]; exact hm4
  obtain ⟨M6, f1, f2⟩ := mbest_eq (M := M5) (by rw [hm5]; exact hz) (by rw [hm5]; exact ht)
  have hm6 : rA M6 221 = z := by rw [f2.2.1 221 (by omega) (by omega)]; exact hm5
  have q6 : DQ N0 M6 := DQ_trans (DQ_trans (DQ_trans (DQ_trans (DQ_trans a2 b2) c2) d2) e2) (DQ_LQ f2)
  obtain ⟨N7, hN7⟩ : ∃ N7, wH M6 (31 * rH M6 + Int32.toInt64 (zbest (rA M5 221))) = N7 := ⟨_, rfl⟩
  have hm7 : rA N7 221 = z := by rw [← hN7]; exact hm6
  obtain ⟨N8, hN8⟩ : ∃ N8, wH (wH N7 (31 * rH N7 + v)) (31 * rH (wH N7 (31 * rH N7 + v)) + Int32.toInt64 (nI t)) = N8 := ⟨_, rfl⟩
  have q8 : DQ N0 N8 := by rw [← hN8]; refine DQ_trans (DQ_trans q6 ?_) (DQ_trans DQ_H DQ_H); rw [← hN7]; exact DQ_H
  have hmt : MT N8 t b := ⟨by rw [q8.1 86 220 (by omega)]; exact hmt0.1, fun i hi => by rw [q8.2.1 224 (by omega) (by omega)]; exact hmt0.2 i hi⟩
  have hmt7 : rF (wH N7 (31 * rH N7 + v)) 86 220 = nI t := by
    have : rF N7 86 220 = nI t := by rw [← hN7]; show rF M6 86 220 = nI t; rw [q6.1 86 220 (by omega)]; exact hmt0.1
    exact this
  obtain ⟨M9, g1, g2⟩ := mtx_l h60 t 0 FU N8 (by omega) (by rw [FU_s]; omega) hmt
  have a1' : F_X5_digest_l14 FU 0 N0 = _ := a1
  have b1' : F_X5_digest_l38 FU 0 M1 = _ := b1
  have c1' : F_X5_digest_l61 FU 0 M2 = _ := c1
  have e1' : F_X5_digest_l91 FU 0 M4 = _ := e1
  have g1' : F_X5_digest_l144 FU 0 N8 = _ := g1
  refine ⟨M9, ?_, ?_, ?_⟩
  · rw [F_X5_digest, nm_k, nm_k, hN0, a1', b1', c1', F_X5_digest_l61, if_pos (show (9 : Int32) < nI 10 by decide), d1, bd_s, e1', F_X5_digest_l91, if_pos (show (12 : Int32) < nI 13 by decide), f1, bd2_s]
    try dsimp only
    rw [mix_eq, bd_s, hN7, mshare_eq (by rw [hm7]; exact hz), bd_s, hm7, hv, bd_s, mix_eq, bd_s, mix_eq, bd_s, hmt7, hN8, g1']
    have r6 : rH M6 = hpre z m := by rw [rH_LQ f2, e3, d3, c3, b3, a3, hr0]; rfl
    have r7 : rH N7 = 31 * hpre z m + g64 (zbest z) := by rw [← hN7, rH_wH, r6, hm5]; rfl
    have r8 : rH N8 = 31 * (31 * (31 * hpre z m + g64 (zbest z)) + v) + g64 (nI t) := by rw [← hN8, rH_wH, rH_wH, r7]; rfl
    rw [r8]
    rfl
  · refine MI_DQ ?_ (DQ_trans q8 g2)
    rw [← hN0]
    exact h
  · refine CPart_trans ?_ (CPart_DQ (DQ_trans q8 g2))
    rw [← hN0]
    exact CPart_80
