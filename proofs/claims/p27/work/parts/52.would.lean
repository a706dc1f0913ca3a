/-! what would be: both sides -/
def LQ (M M1 : MS) : Prop := (∀ c v, (c ≠ 88 ∨ v ≠ 220) → rF M1 c v = rF M c v) ∧ (∀ v, v ≠ 223 → v ≠ 225 → rA M1 v = rA M v) ∧ M1.2.2 = M.2.2
theorem LQ_refl {M : MS} : LQ M M := ⟨fun _ _ _ => rfl, fun _ _ _ => rfl, rfl⟩
theorem LQ_trans {M M1 M2 : MS} (h1 : LQ M M1) (h2 : LQ M1 M2) : LQ M M2 := ⟨fun c v h => (h2.1 c v h).trans (h1.1 c v h), fun v a b => (h2.2.1 v a b).trans (h1.2.1 v a b), h2.2.2.trans h1.2.2⟩
theorem CPart_LQ {M M1 : MS} (h : LQ M M1) : CPart M M1 := ⟨fun c v hv => h.1 c v (Or.inr hv), fun v hv => h.2.1 v (by omega) (by omega), fun i => by unfold rS; rw [h.2.2], by unfold rO; rw [h.2.2]⟩
noncomputable def zwd (z : Nat → Int32) (kd x : Int32) (w : Nat) : Int32 :=
  if z 2 = -1 then (if w = 0 then 0 else -1)
  else if zpos z (z 2).toNatClampNeg kd x = true then
    (if w = 0 then 1 else if w = 1 then nI (zsl z (z 2).toNatClampNeg kd (zn z)).length else if w = 2 then (if zactR z (z 2).toNatClampNeg kd x 0 1 = -1 then 0 else 1) else zact z (z 2).toNatClampNeg kd x 0 1 2)
  else (if w = 0 then 0 else -1)
theorem wl0 {w : Nat} (h : w ≤ 3) : nI w = 0 ↔ w = 0 := by rw [show (0 : Int32) = nI 0 from rfl]; exact nI_eq (by omega) (by decide)
theorem wl1 {w : Nat} (h : w ≤ 3) : nI w = 1 ↔ w = 1 := by rw [show (1 : Int32) = nI 1 from rfl]; exact nI_eq (by omega) (by decide)
theorem wl2 {w : Nat} (h : w ≤ 3) : nI w = 2 ↔ w = 2 := by rw [show (2 : Int32) = nI 2 from rfl]; exact nI_eq (by omega) (by decide)
/-- turns that end, one behind the other -/
noncomputable def zes (z : Nat → Int32) : Nat → (Nat → Int32)
  | 0 => z
  | k + 1 => if zes z k 2 = -1 then zes z k else zend (zes z k) (zes z k 2).toNatClampNeg
theorem zes_ok {z : Nat → Int32} (hz : ZW z) (ht : TH z) : ∀ k, ZW (zes z k) ∧ TH (zes z k) ∧ zn (zes z k) = zn z
  | 0 => ⟨hz, ht, rfl⟩
  | k + 1 => by
    obtain ⟨a, b, c⟩ := zes_ok hz ht k
    have hb := hz.1.2.1
    rw [zes]
    by_cases h : zes z k 2 = -1
    · rw [if_pos h]; exact ⟨a, b, c⟩
    · rw [if_neg h]
      obtain ⟨f, hf, h2, _⟩ := b.resolve_left h
      rw [h2, nI_clamp (by omega)]
      obtain ⟨d, e, g⟩ := zend_ok a hf
      exact ⟨d, e, g.trans c⟩
theorem zes_stop {z : Nat → Int32} {k : Nat} (h : zes z k 2 = -1) : ∀ j, zes z (k + j) = zes z k
  | 0 => rfl
  | j + 1 => by
    rw [show k + (j + 1) = (k + j) + 1 by omega, zes, zes_stop h j, if_pos h]
/-- the best strike -/
noncomputable def zbc (z : Nat → Int32) (f g : Nat) : Bool := decide (¬ zo z g 0 = zo z f 0) && zpos z f 0 (nI g) && (decide (¬ zo (zoff z f 0) f 2 = 0) && zpos (zoff z f 0) f 0 (nI g))
noncomputable def zbs (z : Nat → Int32) (f : Nat) : Nat → Int32 × Int32
  | 0 => (-1, -1)
  | g + 1 => if zbc z f g = true ∧ ¬ zlost (zoff z f 0) f g ≤ (zbs z f g).2 then (nI g, zlost (zoff z f 0) f g) else zbs z f g
noncomputable def zbest (z : Nat → Int32) : Int32 := if z 2 = -1 then -1 else (zbs z (z 2).toNatClampNeg (zn z)).1
theorem zso_ok {c : Nat} : ∀ (l : List Nat) (z : Nat → Int32), ZW z → c < zn z → (∀ a, a ∈ l → a < zn z ∧ ¬ zo z a 7 = -1) → l.Nodup → ZW (zso c l z) ∧ zn (zso c l z) = zn z := by
  intro l
  induction l with
  | nil => intro z hz hc hm hd; exact ⟨hz, rfl⟩
  | cons f l ih =>
    intro z hz hc hm hd
    obtain ⟨hf, hkd⟩ := hm f (List.mem_cons_self ..)
    obtain ⟨w1, w2⟩ := ZW_one hz hf hc hkd
    have hnd := List.nodup_cons.mp hd
    obtain ⟨g4, g5⟩ := ih (zone z c f) w1 (by rw [w2]; exact hc) (fun a ha => by
      obtain ⟨q1, q2⟩ := hm a (List.mem_cons_of_mem _ ha)
      refine ⟨by rw [w2]; exact q1, ?_⟩
      rw [zone_rd hz hf hc hkd (fun e => hnd.1 (by rw [← e]; exact ha))]
      exact q2) hnd.2
    exact ⟨g4, g5.trans w2⟩
theorem off_ok {z : Nat → Int32} {f : Nat} {kd : Int32} (hz : ZW z) (hf : f < zn z) : ZW (zoff z f kd) ∧ zn (zoff z f kd) = zn z := by
  refine zso_ok _ z hz hf (fun a ha => ?_) (zsl_nodup hz.1 _ (Nat.le_refl _))
  obtain ⟨h1, i, hi, e⟩ := zsl_mem _ ha
  exact ⟨by rw [e]; exact (hz.1.2.2.1 i hi).2, zset_kd h1⟩
theorem zbs_low {z : Nat → Int32} {f : Nat} (hz : ZW z) (hf : f < zn z) : ∀ g, g ≤ zn z → (zbs z f g).2 = -1 ∨ ∃ y, y ≤ 99 ∧ (zbs z f g).2 = nI y
  | 0, _ => Or.inl rfl
  | g + 1, h => by
    obtain ⟨hw, hn⟩ := off_ok (kd := 0) hz hf
    rw [zbs]
    split
    · obtain ⟨l, y, h1, h2, h3, h4, h5⟩ := zlost_val (hw.2.1 f (by rw [hn]; exact hf)) (hw.2.1 g (by rw [hn]; omega))
      exact Or.inr ⟨y, by omega, h4⟩
    · exact zbs_low hz hf g (by omega)
theorem cnt_lost {z : Nat → Int32} {f g : Nat} : zlost (zcnt z f) f g = zlost z f g := by
  have o : ∀ a w, w < 15 → zo (zcnt z f) a w = zo z a w := fun a w hw => by
    unfold zcnt
    rw [zo_zl (by decide) (by omega), if_neg (by omega), zo_lo (by decide)]
  unfold zlost zfor
  rw [o _ 2 (by decide), o _ 12 (by decide), o _ 4 (by decide), o _ 13 (by decide)]
theorem lost_R {z : Nat → Int32} {f g : Nat} (hg : g < 10) : zactR z f 0 (nI g) 0 0 = if zo (zoff z f 0) f 2 = 0 then -1 else if zpos (zoff z f 0) f 0 (nI g) = true then zlost (zoff z f 0) f g else -1 := by
  unfold zactR zdoR
  rw [if_pos rfl, nI_clamp (by omega), cnt_lost]
theorem m1_le {x : Int32} (h : x = -1 ∨ ∃ y, y ≤ 99 ∧ x = nI y) : (-1 : Int32) ≤ x := by
  rcases h with rfl | ⟨y, hy, rfl⟩
  · exact Int32.le_refl _
  · rw [Int32.le_iff_toInt_le, nI_toInt (by omega)]
    show (-1 : Int) ≤ y
    omega
/-- the class's scratch -/
theorem scr_eq {M : MS} {z : Nat → Int32} {m : Nat} {sv : Nat → Nat → Int32} {t : Nat} {b : Nat → Int32} (h : CI M z m sv t b) (hp : PI z m sv t) : ∃ M', F_X3_copyFrom M 27 0 = some M' ∧ CR M 27 (rA M (27 + 4)) M' z := copy_eq (v := 27) (w0 := 0) hp.1 h.1 (h.2.2.2.2.2 1 (by decide)) (by omega)
theorem now_of {M M1 : MS} {z y R : Nat → Int32} (h : CZ M 0 z) (h1 : CR M 27 R M1 y) (hb : zn z ≤ 10) : CZ M1 0 z := CZ_same h (fun c u _ h2 => h1.2.2.1.1 c u (by omega)) (fun u _ h2 => h1.2.2.1.2.1 u (by omega)) hb
theorem cends_l {M : MS} {z : Nat → Int32} {k : Nat} {M1 : MS} {R : Nat → Int32} (hz : ZW z) (ht : TH z) (h : CR M 27 R M1 (zes z k)) : ∃ M2, F_X3_endTurn M1 27 = some M2 ∧ CR M 27 R M2 (zes z (k + 1)) := by
  obtain ⟨a, b, c⟩ := zes_ok hz ht k
  have hb := hz.1.2.1
  by_cases e : zes z k 2 = -1
  · refine ⟨M1, cend_no (by rw [h.2.1.1.2.2.1, e]), ?_⟩
    rw [zes, if_pos e]; exact h
  · obtain ⟨f, hf, h2, _⟩ := b.resolve_left e
    obtain ⟨M2, g1, g2⟩ := cend_eq h a hf h2
    refine ⟨M2, g1, ?_⟩
    rw [zes, if_neg e, h2, nI_clamp (by omega)]; exact g2
