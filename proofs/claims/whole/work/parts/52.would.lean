/-! what would be: both sides -/
def LQ (M M1 : MS) : Prop := (∀ c v, (c ≠ 88 ∨ v ≠ 220) → rF M1 c v = rF M c v) ∧ (∀ v, v ≠ 223 → v ≠ 225 → rA M1 v = rA M v) ∧ M1.2.2 = M.2.2
theorem LQ_refl {M : MS} : LQ M M := ⟨fun _ _ _ => rfl, fun _ _ _ => rfl, rfl⟩
theorem LQ_trans {M M1 M2 : MS} (h1 : LQ M M1) (h2 : LQ M1 M2) : LQ M M2 := ⟨fun c v h => (h2.1 c v h).trans (h1.1 c v h), fun v a b => (h2.2.1 v a b).trans (h1.2.1 v a b), h2.2.2.trans h1.2.2⟩
theorem CPart_LQ {M M1 : MS} (h : LQ M M1) : CPart M M1 := ⟨fun c v hv => h.1 c v (Or.inr hv), fun v hv => h.2.1 v (by omega) (by omega), fun i => by unfold rS; rw [h.2.2], by unfold rO; rw [h.2.2]⟩
theorem MI_LQ {M M1 : MS} {z : Nat → Int32} {m t : Nat} {sv : Nat → Nat → Int32} {b : Nat → Int32} (h : MI M z m sv t b) (hc : LQ M M1) : MI M1 z m sv t b := by
  obtain ⟨a, b1, c1, d, e⟩ := h
  exact ⟨by rw [hc.2.1 221 (by omega) (by omega), a], by rw [hc.1 83 220 (by omega), b1], fun i hi j hj => by rw [hc.2.1 222 (by omega) (by omega), c1 i hi j hj], by rw [hc.1 86 220 (by omega), d], fun i hi => by rw [hc.2.1 224 (by omega) (by omega), e i hi]⟩
/-- aside, an act, and back -/
theorem aside_eq {M : MS} {f c r : Nat} {kd x ci ri : Int32} (hz : ZW (rA M 221)) (hf : f < zn (rA M 221)) (ht : rA M 221 2 = nI f) (hx : xok (rA M 221) kd x) (hc : c < 4) (hci : ci = nI c) (hr : r ≤ 5) (hri : ri = nI r) :
    ∃ M6 M8 M9, F_X5_putAside M = some M6 ∧ F_X5_act M6 kd x ci ri = some (zactR (rA M 221) f kd x c ri, M8) ∧ F_X5_bringBack M8 = some M9 ∧ LQ M M9 ∧ rA M8 221 = zact (rA M 221) f kd x c ri ∧ rF M8 88 220 = nI (zsl (rA M 221) f kd (zn (rA M 221))).length := by
  obtain ⟨M6, g1, g2, g3, g4, g5⟩ := mput_eq (M := M)
  have e6 : rA M6 221 = rA M 221 := g3 221 (by decide)
  obtain ⟨M8, k1, k2, k3, k4, k5, k6, k7⟩ := act_eq (M := M6) (f := f) (c := c) (r := r) (kd := kd) (x := x) (ci := ci) (ri := ri) (by rw [e6]; exact hz) (by rw [e6]; exact hf) (by rw [e6]; exact ht) (by rw [e6]; exact hx) hc hci hr hri
  rw [e6] at k1 k3 k4 k5
  have hb := mbrg_eq (M := M8) (s := rA M 221) (fun j hj => by rw [k2.2.1 223 (by decide) (by decide), g5 j hj]) hz.2.2 (fun j hj => by rw [k3]; exact k5.2.2 j hj)
  refine ⟨M6, M8, _, g1, k1, hb, ⟨fun c v h => ?_, fun v h1 h2 => ?_, k2.2.2.trans g4⟩, k3, k4⟩
  · rw [mz_F, k2.1 c v h, g2]
  · by_cases e : v = 221
    · rw [e, mz_z]
    · rw [mz_ne e, k2.2.1 v e h2, g3 v h1]
noncomputable def zwd (z : Nat → Int32) (kd x : Int32) (w : Nat) : Int32 :=
  if z 2 = -1 then (if w = 0 then 0 else -1)
  else if zpos z (z 2).toNatClampNeg kd x = true then
    (if w = 0 then 1 else if w = 1 then nI (zsl z (z 2).toNatClampNeg kd (zn z)).length else if w = 2 then (if zactR z (z 2).toNatClampNeg kd x 0 1 = -1 then 0 else 1) else zact z (z 2).toNatClampNeg kd x 0 1 2)
  else (if w = 0 then 0 else -1)
theorem wl0 {w : Nat} (h : w ≤ 3) : nI w = 0 ↔ w = 0 := by rw [show (0 : Int32) = nI 0 from rfl]; exact nI_eq (by omega) (by decide)
theorem wl1 {w : Nat} (h : w ≤ 3) : nI w = 1 ↔ w = 1 := by rw [show (1 : Int32) = nI 1 from rfl]; exact nI_eq (by omega) (by decide)
theorem wl2 {w : Nat} (h : w ≤ 3) : nI w = 2 ↔ w = 2 := by rw [show (2 : Int32) = nI 2 from rfl]; exact nI_eq (by omega) (by decide)
theorem mwd_eq {M : MS} {kd x : Int32} {w : Nat} (hz : ZW (rA M 221)) (ht : TH (rA M 221)) (hx : xok (rA M 221) kd x) (hw : w ≤ 3) : ∃ M', F_X5_wouldDo M kd x (nI w) = some (zwd (rA M 221) kd x w, M') ∧ LQ M M' := by
  have hb := hz.1.2.1
  unfold zwd
  rcases ht with h2 | ⟨f, hf, h2, _⟩
  · rw [F_X5_wouldDo, can_no h2, bd_s, if_neg (fun q => q rfl), if_pos h2]
    by_cases e : w = 0
    · rw [if_neg (fun q => q ((wl0 hw).mpr e)), if_pos e]; exact ⟨M, rfl, LQ_refl⟩
    · rw [if_pos (fun q => e ((wl0 hw).mp q)), if_neg e]; exact ⟨M, rfl, LQ_refl⟩
  · rw [F_X5_wouldDo, can_eq hz.1 hf h2 hx, bd_s, h2, if_neg (ne1 f (by omega)), nI_clamp (by omega)]
    by_cases c : zpos (rA M 221) f kd x = true
    · rw [if_pos c, if_pos i10, if_pos c]
      by_cases e : w = 0
      · rw [if_neg (fun q => q ((wl0 hw).mpr e)), if_pos e]; exact ⟨M, rfl, LQ_refl⟩
      · rw [if_pos (fun q => e ((wl0 hw).mp q)), if_neg e]
        obtain ⟨M6, M8, M9, g1, g2, g3, g4, g5, g6⟩ := aside_eq (c := 0) (r := 1) (ci := 0) (ri := 1) hz hf h2 hx (by decide) rfl (by decide) rfl
        rw [g1, bd_s, g2, bd2_s, nm_k]
        by_cases e1 : w = 1
        · rw [if_neg (fun q => q ((wl1 hw).mpr e1)), if_pos e1]
          dsimp only
          rw [g3, bd_s, g6]; exact ⟨M9, rfl, g4⟩
        · rw [if_pos (fun q => e1 ((wl1 hw).mp q)), if_neg e1]
          by_cases e2 : w = 2
          · rw [if_neg (fun q => q ((wl2 hw).mpr e2)), if_pos e2]
            by_cases q : zactR (rA M 221) f kd x 0 1 = -1
            · rw [if_neg (fun r => r q), if_pos q]
              dsimp only
              rw [g3, bd_s]; exact ⟨M9, rfl, g4⟩
            · rw [if_pos q, if_neg q]
              dsimp only
              rw [g3, bd_s]; exact ⟨M9, rfl, g4⟩
          · rw [if_pos (fun q => e2 ((wl2 hw).mp q)), if_neg e2, gd2, tn2]
            dsimp only
            rw [g3, bd_s, g5]; exact ⟨M9, rfl, g4⟩
    · rw [if_neg c, if_neg (fun q => q rfl), if_neg c]
      by_cases e : w = 0
      · rw [if_neg (fun q => q ((wl0 hw).mpr e)), if_pos e]; exact ⟨M, rfl, LQ_refl⟩
      · rw [if_pos (fun q => e ((wl0 hw).mp q)), if_neg e]; exact ⟨M, rfl, LQ_refl⟩
/-- turns that end, one behind the other -/
noncomputable def zes (z : Nat → Int32) : Nat → (Nat → Int32)
  | 0 => z
  | k + 1 => if zes z k 2 = -1 then zes z k else zend (zes z k) (zes z k 2).toNatClampNeg
theorem zes_ok {z : Nat → Int32} (hz : ZW z) (ht : TH z) : ∀ k, ZW (zes z k) ∧ TH (zes z k) ∧ zn (zes z k) = zn z
  | 0 => ⟨hz, ht, rfl⟩
  | k + 1 => by
    obtain ⟨a, b, c⟩ := zes_ok hz ht k
    have hb := hz.1.2.1
    rw [zes]
    by_cases h : zes z k 2 = -1
    · rw [if_pos h]; exact ⟨a, b, c⟩
    · rw [if_neg h]
      obtain ⟨f, hf, h2, _⟩ := b.resolve_left h
      rw [h2, nI_clamp (by omega)]
      obtain ⟨d, e, g⟩ := zend_ok a hf
      exact ⟨d, e, g.trans c⟩
theorem zes_stop {z : Nat → Int32} {k : Nat} (h : zes z k 2 = -1) : ∀ j, zes z (k + j) = zes z k
  | 0 => rfl
  | j + 1 => by
    rw [show k + (j + 1) = (k + j) + 1 by omega, zes, zes_stop h j, if_pos h]
theorem mwe_l {z : Nat → Int32} {n : Nat} (hz : ZW z) (ht : TH z) (hn : n ≤ 40) : ∀ d i k (M : MS), i + d = n → d < k → rA M 221 = zes z i → (∀ j, j < 186 → rA M 223 j = z j) → ∃ M4 M', F_X5_wouldEnd_l6 (nI n) k (nI i) M = some (zes z n 2, M') ∧ FQ M M4 ∧ M' = mz M4 z := by
  intro d
  induction d with
  | zero =>
    intro i k M hi hk hM hs
    obtain ⟨k, rfl⟩ : ∃ q, k = q + 1 := ⟨k - 1, by omega⟩
    have e : i = n := by omega
    subst e
    have hbb := mbrg_eq (M := M) (s := z) hs hz.2.2 (fun j hj => by rw [hM]; exact (zes_ok hz ht i).1.2.2 j hj)
    rw [F_X5_wouldEnd_l6, nm_k, if_pos (nI_le (Nat.le_refl _) (by omega)), gd2, nm_k, tn2, hbb, bd_s, hM]
    exact ⟨M, _, rfl, FQ_refl, rfl⟩
  | succ d ih =>
    intro i k M hi hk hM hs
    obtain ⟨k, rfl⟩ : ∃ q, k = q + 1 := ⟨k - 1, by omega⟩
    obtain ⟨a, b, c⟩ := zes_ok hz ht i
    have hb := hz.1.2.1
    rw [F_X5_wouldEnd_l6, nm_k, if_neg (nI_ge (by omega) (by omega)), gd2, tn2, hM]
    by_cases h : zes z i 2 = -1
    · have hbb := mbrg_eq (M := M) (s := z) hs hz.2.2 (fun j hj => by rw [hM]; exact a.2.2 j hj)
      have e := zes_stop h (n - i)
      rw [show i + (n - i) = n by omega] at e
      rw [if_pos h, gd2, nm_k, hbb, bd_s, e]
      exact ⟨M, _, rfl, FQ_refl, rfl⟩
    · obtain ⟨f, hf, h2, _⟩ := b.resolve_left h
      have he := endT (M := M) (f := f) (by rw [hM]; exact a) (by rw [hM]; exact hf) (by rw [hM]; exact h2)
      rw [hM] at he
      have e2 : zes z (i + 1) = zend (zes z i) f := by rw [zes, if_neg h, h2, nI_clamp (by omega)]
      rw [if_neg h, he, bd_s, nm_k, nI_1]
      obtain ⟨M4, M', g1, g2, g3⟩ := ih (i + 1) k (mz M (zend (zes z i) f)) (by omega) (by omega) (by rw [mz_z, e2]) (fun j hj => by rw [mz_ne (by decide)]; exact hs j hj)
      exact ⟨M4, M', g1, FQ_trans FQ_mz g2, g3⟩
theorem mwe_eq {M : MS} {n : Nat} (hz : ZW (rA M 221)) (ht : TH (rA M 221)) (hn : n ≤ 40) : ∃ M', F_X5_wouldEnd M (nI n) = some (zes (rA M 221) n 2, M') ∧ LQ M M' := by
  obtain ⟨M6, g1, g2, g3, g4, g5⟩ := mput_eq (M := M)
  obtain ⟨M4, M', k1, k2, k3⟩ := mwe_l hz ht hn n 0 FU M6 (by omega) (by rw [FU_s]; omega) (g3 221 (by decide)) g5
  rw [F_X5_wouldEnd, g1, bd_s]
  refine ⟨M', k1, ?_⟩
  subst k3
  refine ⟨fun c v h => ?_, fun v h1 h2 => ?_, k2.2.2.trans g4⟩
  · rw [mz_F, k2.1 c v h, g2]
  · by_cases e : v = 221
    · rw [e, mz_z]
    · rw [mz_ne e, k2.2.1 v e h2, g3 v h1]
/-- the best strike -/
noncomputable def zbc (z : Nat → Int32) (f g : Nat) : Bool := decide (¬ zo z g 0 = zo z f 0) && zpos z f 0 (nI g) && (decide (¬ zo (zoff z f 0) f 2 = 0) && zpos (zoff z f 0) f 0 (nI g))
noncomputable def zbs (z : Nat → Int32) (f : Nat) : Nat → Int32 × Int32
  | 0 => (-1, -1)
  | g + 1 => if zbc z f g = true ∧ ¬ zlost (zoff z f 0) f g ≤ (zbs z f g).2 then (nI g, zlost (zoff z f 0) f g) else zbs z f g
noncomputable def zbest (z : Nat → Int32) : Int32 := if z 2 = -1 then -1 else (zbs z (z 2).toNatClampNeg (zn z)).1
theorem off_ok {z : Nat → Int32} {f : Nat} {kd : Int32} (hz : ZW z) (hf : f < zn z) : ZW (zoff z f kd) ∧ zn (zoff z f kd) = zn z := by
  obtain ⟨M', _, _, _, h4, h5⟩ := setOff_eq (M := mz M0 z) (c := f) (kd := kd) (by rw [mz_z]; exact hz) (by rw [mz_z]; exact hf)
  rw [mz_z] at h4 h5
  exact ⟨h4, h5⟩
theorem zbs_low {z : Nat → Int32} {f : Nat} (hz : ZW z) (hf : f < zn z) : ∀ g, g ≤ zn z → (zbs z f g).2 = -1 ∨ ∃ y, y ≤ 99 ∧ (zbs z f g).2 = nI y
  | 0, _ => Or.inl rfl
  | g + 1, h => by
    obtain ⟨hw, hn⟩ := off_ok (kd := 0) hz hf
    rw [zbs]
    split
    · obtain ⟨l, y, h1, h2, h3, h4, h5⟩ := zlost_val (hw.2.1 f (by rw [hn]; exact hf)) (hw.2.1 g (by rw [hn]; omega))
      exact Or.inr ⟨y, by omega, h4⟩
    · exact zbs_low hz hf g (by omega)
theorem cnt_lost {z : Nat → Int32} {f g : Nat} : zlost (zcnt z f) f g = zlost z f g := by
  have o : ∀ a w, w < 15 → zo (zcnt z f) a w = zo z a w := fun a w hw => by
    unfold zcnt
    rw [zo_zl (by decide) (by omega), if_neg (by omega), zo_lo (by decide)]
  unfold zlost zfor
  rw [o _ 2 (by decide), o _ 12 (by decide), o _ 4 (by decide), o _ 13 (by decide)]
theorem lost_R {z : Nat → Int32} {f g : Nat} (hg : g < 10) : zactR z f 0 (nI g) 0 0 = if zo (zoff z f 0) f 2 = 0 then -1 else if zpos (zoff z f 0) f 0 (nI g) = true then zlost (zoff z f 0) f g else -1 := by
  unfold zactR zdoR
  rw [if_pos rfl, nI_clamp (by omega), cnt_lost]
theorem m1_le {x : Int32} (h : x = -1 ∨ ∃ y, y ≤ 99 ∧ x = nI y) : (-1 : Int32) ≤ x := by
  rcases h with rfl | ⟨y, hy, rfl⟩
  · exact Int32.le_refl _
  · rw [Int32.le_iff_toInt_le, nI_toInt (by omega)]
    show (-1 : Int) ≤ y
    omega
theorem mbest_l {z : Nat → Int32} {f : Nat} (hz : ZW z) (hf : f < zn z) (ht : z 2 = nI f) : ∀ d g k (M : MS), g + d = zn z → d < k → rA M 221 = z → ∃ M', F_X5_best_l6 k (zbs z f g).1 (zbs z f g).2 (nI g) M = some ((zbs z f (zn z)).1, M') ∧ LQ M M' := by
  have hb := hz.1.2.1
  intro d
  induction d with
  | zero =>
    intro g k M hi hk hM
    obtain ⟨k, rfl⟩ : ∃ q, k = q + 1 := ⟨k - 1, by omega⟩
    have e : g = zn z := by omega
    subst e
    rw [F_X5_best_l6, gd0, tn0, hM, if_pos ((z0_le hz.1 (by omega)).mpr (by omega))]
    exact ⟨M, rfl, LQ_refl⟩
  | succ d ih =>
    intro g k M hi hk hM
    obtain ⟨k, rfl⟩ : ∃ q, k = q + 1 := ⟨k - 1, by omega⟩
    have hx : xok z 0 (nI g) := Or.inr ⟨i01, g, by omega, rfl⟩
    have hlow := m1_le (zbs_low hz hf g (by omega))
    have keep : zbs z f (g + 1) = zbs z f g → ∃ M', (nm (nI g + (1 : Int32)) fun x => (F_X5_best_l6 k (zbs z f g).1 (zbs z f g).2 x M)) = some ((zbs z f (zn z)).1, M') ∧ LQ M M' := by
      intro e
      rw [nm_k, nI_1, ← e]
      exact ih (g + 1) k M (by omega) (by omega) hM
    rw [F_X5_best_l6, gd0, tn0, hM, if_neg (fun q => by have := (z0_le hz.1 (by omega)).mp q; omega), gd2, nm_k, tn2, ht, if_neg (ne1 f (by omega)), of_l (by omega) (by decide), bd_s, gd2, of_l (by omega) (by decide), bd_s, hM]
    by_cases s : zo z g 0 = zo z f 0
    · rw [if_pos s]
      dsimp only
      rw [if_pos rfl]
      exact keep (by rw [zbs, if_neg]; rintro ⟨q, _⟩; unfold zbc at q; simp [s] at q)
    · rw [if_neg s]
      dsimp only
      rw [if_neg i10, can_eq (by rw [hM]; exact hz.1) (by rw [hM]; exact hf) (by rw [hM]; exact ht) (by rw [hM]; exact hx), bd_s, hM]
      by_cases p : zpos z f 0 (nI g) = true
      · rw [if_pos p, if_neg i10]
        obtain ⟨M6, M8, M9, g1, g2, g3, g4, g5, g6⟩ := aside_eq (M := M) (f := f) (kd := 0) (x := nI g) (c := 0) (r := 0) (ci := 0) (ri := 0) (by rw [hM]; exact hz) (by rw [hM]; exact hf) (by rw [hM]; exact ht) (by rw [hM]; exact hx) (by decide) rfl (by decide) rfl
        have hM9 : rA M9 221 = z := by rw [g4.2.1 221 (by decide) (by decide), hM]
        rw [hM] at g2
        rw [g1, bd_s, g2, bd2_s, g3, bd_s, nm_k, lost_R (by omega)]
        have keep9 : zbs z f (g + 1) = zbs z f g → ∃ M', (nm (nI g + (1 : Int32)) fun x => (F_X5_best_l6 k (zbs z f g).1 (zbs z f g).2 x M9)) = some ((zbs z f (zn z)).1, M') ∧ LQ M M' := by
          intro e
          rw [nm_k, nI_1, ← e]
          obtain ⟨M', q1, q2⟩ := ih (g + 1) k M9 (by omega) (by omega) hM9
          exact ⟨M', q1, LQ_trans g4 q2⟩
        by_cases c1 : zo (zoff z f 0) f 2 = 0
        · rw [if_pos c1, if_pos hlow]
          dsimp only
          rw [if_pos hlow]
          exact keep9 (by rw [zbs, if_neg]; rintro ⟨q, _⟩; unfold zbc at q; simp [c1] at q)
        rw [if_neg c1]
        by_cases c2 : zpos (zoff z f 0) f 0 (nI g) = true
        · rw [if_pos c2]
          by_cases c3 : zlost (zoff z f 0) f g ≤ (zbs z f g).2
          · rw [if_pos c3]
            dsimp only
            rw [if_pos c3]
            exact keep9 (by rw [zbs, if_neg (fun q => q.2 c3)])
          · rw [if_neg c3]
            dsimp only
            rw [if_neg c3, nm_k, nI_1]
            have e : zbs z f (g + 1) = (nI g, zlost (zoff z f 0) f g) := by rw [zbs, if_pos ⟨by unfold zbc; simp [s, p, c1, c2], c3⟩]
            obtain ⟨M', q1, q2⟩ := ih (g + 1) k M9 (by omega) (by omega) hM9
            rw [e] at q1
            exact ⟨M', q1, LQ_trans g4 q2⟩
        · rw [if_neg c2, if_pos hlow]
          dsimp only
          rw [if_pos hlow]
          exact keep9 (by rw [zbs, if_neg]; rintro ⟨q, _⟩; unfold zbc at q; simp [c2] at q)
      · rw [if_neg p, if_pos rfl]
        exact keep (by rw [zbs, if_neg]; rintro ⟨q, _⟩; unfold zbc at q; simp [p] at q)
theorem mbest_no {z : Nat → Int32} (hz : ZW z) (ht : z 2 = -1) : ∀ d g k (M : MS), g + d = zn z → d < k → rA M 221 = z → F_X5_best_l6 k (-1) (-1) (nI g) M = some (-1, M) := by
  have hb := hz.1.2.1
  intro d
  induction d with
  | zero =>
    intro g k M hi hk hM
    obtain ⟨k, rfl⟩ : ∃ q, k = q + 1 := ⟨k - 1, by omega⟩
    have e : g = zn z := by omega
    subst e
    rw [F_X5_best_l6, gd0, tn0, hM, if_pos ((z0_le hz.1 (by omega)).mpr (by omega))]
  | succ d ih =>
    intro g k M hi hk hM
    obtain ⟨k, rfl⟩ : ∃ q, k = q + 1 := ⟨k - 1, by omega⟩
    rw [F_X5_best_l6, gd0, tn0, hM, if_neg (fun q => by have := (z0_le hz.1 (by omega)).mp q; omega), gd2, nm_k, tn2, ht, if_pos rfl]
    dsimp only
    rw [if_pos rfl, nm_k, nI_1]
    exact ih (g + 1) k M (by omega) (by omega) hM
theorem mbest_eq {M : MS} (hz : ZW (rA M 221)) (ht : TH (rA M 221)) : ∃ M', F_X5_best M = some (zbest (rA M 221), M') ∧ LQ M M' := by
  have hb := hz.1.2.1
  unfold zbest
  rw [F_X5_best]
  rcases ht with h2 | ⟨f, hf, h2, _⟩
  · rw [if_pos h2]
    exact ⟨M, mbest_no hz h2 (zn (rA M 221)) 0 FU M (by omega) (by rw [FU_s]; omega) rfl, LQ_refl⟩
  · rw [h2, if_neg (ne1 f (by omega)), nI_clamp (by omega)]
    exact mbest_l hz hf h2 (zn (rA M 221)) 0 FU M (by omega) (by rw [FU_s]; omega) rfl
/-- the class's scratch -/
theorem scr_eq {M : MS} {z : Nat → Int32} {m : Nat} {sv : Nat → Nat → Int32} {t : Nat} {b : Nat → Int32} (h : CI M z m sv t b) (hp : PI z m sv t) : ∃ M', F_X3_copyFrom M 27 0 = some M' ∧ CR M 27 (rA M (27 + 4)) M' z := copy_eq (v := 27) (w0 := 0) hp.1 h.1 (h.2.2.2.2.2 1 (by decide)) (by omega)
theorem now_of {M M1 : MS} {z y R : Nat → Int32} (h : CZ M 0 z) (h1 : CR M 27 R M1 y) (hb : zn z ≤ 10) : CZ M1 0 z := CZ_same h (fun c u _ h2 => h1.2.2.1.1 c u (by omega)) (fun u _ h2 => h1.2.2.1.2.1 u (by omega)) hb
theorem cends_l {M : MS} {z : Nat → Int32} {k : Nat} {M1 : MS} {R : Nat → Int32} (hz : ZW z) (ht : TH z) (h : CR M 27 R M1 (zes z k)) : ∃ M2, F_X3_endTurn M1 27 = some M2 ∧ CR M 27 R M2 (zes z (k + 1)) := by
  obtain ⟨a, b, c⟩ := zes_ok hz ht k
  have hb := hz.1.2.1
  by_cases e : zes z k 2 = -1
  · refine ⟨M1, cend_no (by rw [h.2.1.1.2.2.1, e]), ?_⟩
    rw [zes, if_pos e]; exact h
  · obtain ⟨f, hf, h2, _⟩ := b.resolve_left e
    obtain ⟨M2, g1, g2⟩ := cend_eq h a hf h2
    refine ⟨M2, g1, ?_⟩
    rw [zes, if_neg e, h2, nI_clamp (by omega)]; exact g2
theorem cbest_l {M : MS} {z : Nat → Int32} {f : Nat} {R : Nat → Int32} (hz : ZW z) (hf : f < zn z) (ht : z 2 = nI f) (hl : ¬ zo z f 2 = 0) (h0 : CZ M 0 z) (h1 : CZ M 27 (zoff z f 0)) : ∀ d g k, g + d = zn z → d < k → F_X4_bestStrike_l38 M k (zbs z f g).1 (zbs z f g).2 (nI g) = some ((zbs z f (zn z)).1, M) := by
  have hb := hz.1.2.1
  obtain ⟨hw, hn⟩ := off_ok (kd := 0) hz hf
  intro d
  induction d with
  | zero =>
    intro g k hi hk
    obtain ⟨k, rfl⟩ : ∃ q, k = q + 1 := ⟨k - 1, by omega⟩
    have e : g = zn z := by omega
    subst e
    rw [F_X4_bestStrike_l38, h0.1.1, if_pos ((z0_le hz.1 (by omega)).mpr (by omega))]
  | succ d ih =>
    intro g k hi hk
    obtain ⟨k, rfl⟩ : ∃ q, k = q + 1 := ⟨k - 1, by omega⟩
    have hx : xok z 0 (nI g) := Or.inr ⟨i01, g, by omega, rfl⟩
    have keep : zbs z f (g + 1) = zbs z f g → (nm (nI g + (1 : Int32)) fun x => (F_X4_bestStrike_l38 M k (zbs z f g).1 (zbs z f g).2 x)) = some ((zbs z f (zn z)).1, M) := by
      intro e
      rw [nm_k, nI_1, ← e]
      exact ih (g + 1) k (by omega) (by omega)
    rw [F_X4_bestStrike_l38, h0.1.1, if_neg (fun q => by have := (z0_le hz.1 (by omega)).mp q; omega), h0.1.2.2.1, ht, F_X3_areFoes, at_l hz.1 h0 hf, bd_s, at_l hz.1 h0 (by omega), bd_s, f_side h0 hf, f_side h0 (by omega)]
    by_cases s : zo z f 0 = zo z g 0
    · rw [if_pos s, bd_s, if_pos rfl]
      exact keep (by rw [zbs, if_neg]; rintro ⟨q, _⟩; unfold zbc at q; simp [s] at q)
    rw [if_neg s, bd_s, if_neg i10, cpos_l h0 hz hf hx (Or.inl rfl), bd_s]
    rw [if_neg hl]
    by_cases p : zpos z f 0 (nI g) = true
    · rw [if_pos p, if_neg i10, cpos_l h1 hw (by rw [hn]; exact hf) (xok_of hn hx) (Or.inl rfl), bd_s]
      by_cases c1 : zo (zoff z f 0) f 2 = 0
      · rw [if_pos c1, if_pos rfl]
        exact keep (by rw [zbs, if_neg]; rintro ⟨q, _⟩; unfold zbc at q; simp [c1] at q)
      rw [if_neg c1]
      by_cases c2 : zpos (zoff z f 0) f 0 (nI g) = true
      · rw [if_pos c2, if_neg i10, at_l hw.1 h1 (by rw [hn]; exact hf), bd_s, at_l hw.1 h1 (by rw [hn]; omega), bd_s, closs_l h1 (by rw [hn]; exact hf) (by rw [hn]; omega), bd_s]
        by_cases c3 : zlost (zoff z f 0) f g ≤ (zbs z f g).2
        · rw [if_pos c3]
          exact keep (by rw [zbs, if_neg (fun q => q.2 c3)])
        · rw [if_neg c3, nm_k, nI_1]
          have e : zbs z f (g + 1) = (nI g, zlost (zoff z f 0) f g) := by rw [zbs, if_pos ⟨by unfold zbc; simp [Ne.symm s, p, c1, c2], c3⟩]
          have := ih (g + 1) k (by omega) (by omega)
          rw [e] at this
          exact this
      · rw [if_neg c2, if_pos rfl]
        exact keep (by rw [zbs, if_neg]; rintro ⟨q, _⟩; unfold zbc at q; simp [c2] at q)
    · rw [if_neg p, if_pos rfl]
      exact keep (by rw [zbs, if_neg]; rintro ⟨q, _⟩; unfold zbc at q; simp [p] at q)
theorem cbest_eq {M : MS} {z : Nat → Int32} {m : Nat} {sv : Nat → Nat → Int32} {t : Nat} {b : Nat → Int32} (h : CI M z m sv t b) (hp : PI z m sv t) : ∃ M', F_X4_bestStrike M = some (zbest z, M') ∧ CI M' z m sv t b ∧ MPart M M' ∧ rO M' = rO M := by
  obtain ⟨hz, ht, _⟩ := id hp
  have hb := hz.1.2.1
  unfold zbest
  rw [F_X4_bestStrike, h.1.1.2.2.1]
  rcases ht with h2 | ⟨f, hf, h2, hl, h6, h7⟩
  · rw [if_neg (fun q => q h2), if_pos h2]
    exact ⟨M, rfl, h, MPart_refl, rfl⟩
  · rw [h2, if_pos (ne1 f (by omega)), if_neg (ne1 f (by omega)), nI_clamp (by omega)]
    obtain ⟨M3, g1, g2⟩ := scr_eq h hp
    obtain ⟨M5, R', k1, k2, k3⟩ := coff_eq (kd := 0) g2 hz hf h2 h7
    have h0 := now_of h.1 k2 hb
    rw [g1, bd_s, k1, bd_s]
    refine ⟨M5, cbest_l (R := R') hz hf h2 hl h0 k2.2.1 (zn z) 0 FU (by omega) (by rw [FU_s]; omega), CI_scr h hp k2, MPart_CFR k2.2.2.1 (by decide), by unfold rO; rw [k2.2.2.1.2.2]⟩
