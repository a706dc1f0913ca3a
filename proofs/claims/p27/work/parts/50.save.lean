/-! what holds between the calls; save and undo -/
def CPart (M M1 : MS) : Prop := (∀ c v, v ≠ 220 → rF M1 c v = rF M c v) ∧ (∀ v, v < 220 → rA M1 v = rA M v) ∧ (∀ i, rS M1 i = rS M i) ∧ rO M1 = rO M
def MPart (M M1 : MS) : Prop := (∀ c, rF M1 c 220 = rF M c 220) ∧ (∀ v, 220 ≤ v → rA M1 v = rA M v) ∧ rH M1 = rH M
theorem CPart_refl {M : MS} : CPart M M := ⟨fun _ _ _ => rfl, fun _ _ => rfl, fun _ => rfl, rfl⟩
theorem MPart_refl {M : MS} : MPart M M := ⟨fun _ => rfl, fun _ _ => rfl, rfl⟩
theorem CPart_trans {M M1 M2 : MS} (h1 : CPart M M1) (h2 : CPart M1 M2) : CPart M M2 := ⟨fun c v h => (h2.1 c v h).trans (h1.1 c v h), fun v h => (h2.2.1 v h).trans (h1.2.1 v h), fun i => (h2.2.2.1 i).trans (h1.2.2.1 i), h2.2.2.2.trans h1.2.2.2⟩
theorem MPart_trans {M M1 M2 : MS} (h1 : MPart M M1) (h2 : MPart M1 M2) : MPart M M2 := ⟨fun c => (h2.1 c).trans (h1.1 c), fun v h => (h2.2.1 v h).trans (h1.2.1 v h), h2.2.2.trans h1.2.2⟩
theorem CPart_80 {M : MS} {x : Int32} {c : Nat} : CPart M (wF M c 220 x) := ⟨fun c' v h => by rw [rF_wF, if_neg (fun q => h q.2)], fun _ _ => rfl, fun _ => rfl, rfl⟩
theorem CPart_A {M : MS} {v i : Nat} {x : Int32} (hv : 220 ≤ v) : CPart M (wA M v i x) := ⟨fun _ _ _ => rfl, fun u h => rA_wAn (by omega), fun _ => rfl, rfl⟩
theorem CPart_pr {M : MS} {v : Nat} {R : Nat → Int32} (hv : 220 ≤ v) : CPart M (pr M v R) := ⟨fun _ _ _ => rfl, fun u h => pr_An (by omega), fun _ => rfl, rfl⟩
theorem CPart_FQ {M M1 : MS} (h : FQ M M1) : CPart M M1 := ⟨fun c v hv => h.1 c v (Or.inr hv), fun v hv => h.2.1 v (by omega) (by omega), fun i => by unfold rS; rw [h.2.2], by unfold rO; rw [h.2.2]⟩
theorem MPart_CFR {M M1 : MS} {v : Nat} (h : CFR v M M1) (hv : v + 27 ≤ 220) : MPart M M1 := ⟨fun c => h.1 c 220 (by omega), fun u hu => h.2.1 u (by omega), by unfold rH; rw [h.2.2]⟩
theorem MPart_F {M : MS} {c v : Nat} {x : Int32} (hv : v ≠ 220) : MPart M (wF M c v x) := ⟨fun c' => by rw [rF_wF, if_neg (fun q => hv q.2.symm)], fun _ _ => rfl, rfl⟩
theorem MPart_A {M : MS} {v i : Nat} {x : Int32} (hv : v < 220) : MPart M (wA M v i x) := ⟨fun _ => rfl, fun u h => rA_wAn (by omega), rfl⟩
/-- a block elsewhere stays -/
theorem CZ_same {M M1 : MS} {v : Nat} {z : Nat → Int32} (h : CZ M v z) (h1 : ∀ c u, v ≤ u → u < v + 27 → rF M1 c u = rF M c u) (h2 : ∀ u, v ≤ u → u < v + 27 → rA M1 u = rA M u) (hb : zn z ≤ 10) : CZ M1 v z := by
  obtain ⟨⟨a0, a1, a2, a3, a4, a5⟩, ⟨b1, b2⟩, c1, d1, d2⟩ := h
  refine ⟨⟨by rw [h1 52 v (by omega) (by omega), a0], by rw [h1 53 v (by omega) (by omega), a1], by rw [h1 54 v (by omega) (by omega), a2], by rw [h1 56 v (by omega) (by omega), a3], by rw [h1 57 v (by omega) (by omega), a4], by rw [h1 55 v (by omega) (by omega), a5]⟩, ⟨by rw [h1 33 _ (by omega) (by omega), b1], fun i hi => by rw [h2 _ (by omega) (by omega), b2 i hi]⟩, fun f hf w hw => ?_, by rw [h1 2 _ (by omega) (by omega), d1], by rw [h1 7 _ (by omega) (by omega), d2]⟩
  rw [← c1 f hf w hw]
  rcases w_cases w with h | h | h | h | h
  · rw [cfo_1 h, cfo_1 h, h1 _ _ (by omega) (by omega)]
  · rw [cfo_2 h, cfo_2 h, h1 _ _ (by omega) (by omega)]
  · rw [cfo_3 h, cfo_3 h, h1 _ _ (by omega) (by omega)]
  · rw [cfo_4 h, cfo_4 h, h2 _ (by omega) (by omega)]
  · rw [cfo_5 h, cfo_5 h, h1 _ _ (by omega) (by omega)]
def SP (M : MS) : Prop := (∀ i, i < 6 → 2 ≤ rS M i ∧ rS M i < 8) ∧ ∀ i j, i < 6 → j < 6 → rS M i = rS M j → i = j
def CI (M : MS) (z : Nat → Int32) (m : Nat) (sv : Nat → Nat → Int32) (t : Nat) (b : Nat → Int32) : Prop :=
  CZ M 0 z ∧ rF M 67 216 = nI m ∧ SP M ∧ (∀ i, i < m → CZ M (27 * rS M i) (sv i)) ∧ (rF M 17 218 = nI t ∧ ∀ i, i < t → rA M 219 i = b i) ∧ ∀ k, k < 8 → NB M (27 * k)
def PI (z : Nat → Int32) (m : Nat) (sv : Nat → Nat → Int32) (t : Nat) : Prop := ZW z ∧ TH z ∧ m ≤ 6 ∧ (∀ i, i < m → ZW (sv i) ∧ TH (sv i)) ∧ t ≤ 60
theorem CI_keep {M M1 : MS} {z : Nat → Int32} {m t : Nat} {sv : Nat → Nat → Int32} {b : Nat → Int32} (h : CI M z m sv t b) (hp : PI z m sv t) (hc : CPart M M1) : CI M1 z m sv t b := by
  obtain ⟨a, b1, ⟨c1, c2⟩, d, ⟨e1, e2⟩, f⟩ := h
  have hm := hp.2.2.1
  refine ⟨CZ_same a (fun c u _ h2 => hc.1 c u (by omega)) (fun u _ h2 => hc.2.1 u (by omega)) hp.1.1.2.1, by rw [hc.1 67 216 (by omega), b1], ⟨fun i hi => by rw [hc.2.2.1]; exact c1 i hi, fun i j hi hj => by rw [hc.2.2.1, hc.2.2.1]; exact c2 i j hi hj⟩, fun i hi => ?_, ⟨by rw [hc.1 17 218 (by omega), e1], fun i hi => by rw [hc.2.1 219 (by omega), e2 i hi]⟩, fun k hk => ⟨by rw [hc.1 2 _ (by omega)]; exact (f k hk).1, by rw [hc.1 7 _ (by omega)]; exact (f k hk).2⟩⟩
  have := c1 i (by omega)
  rw [hc.2.2.1]
  exact CZ_same (d i hi) (fun c u _ h2 => hc.1 c u (by omega)) (fun u _ h2 => hc.2.1 u (by omega)) (hp.2.2.2.1 i hi).1.1.2.1
/-- the block of the skirmish itself changes: the rest stays -/
theorem CI_now {M M1 : MS} {z z' : Nat → Int32} {m t : Nat} {sv : Nat → Nat → Int32} {b R : Nat → Int32} (h : CI M z m sv t b) (hp : PI z m sv t) (h1 : CR M 0 R M1 z') : CI M1 z' m sv t b := by
  obtain ⟨a, b1, ⟨c1, c2⟩, d, ⟨e1, e2⟩, f⟩ := h
  obtain ⟨hz, hcz, ⟨g1, g2, g3⟩, _⟩ := h1
  have hm := hp.2.2.1
  have hs : ∀ i, rS M1 i = rS M i := fun i => by unfold rS; rw [g3]
  refine ⟨hcz, by rw [g1 67 216 (by omega), b1], ⟨fun i hi => by rw [hs]; exact c1 i hi, fun i j hi hj => by rw [hs, hs]; exact c2 i j hi hj⟩, fun i hi => ?_, ⟨by rw [g1 17 218 (by omega), e1], fun i hi => by rw [g2 219 (by omega), e2 i hi]⟩, fun k hk => ?_⟩
  · have := c1 i (by omega)
    rw [hs]
    exact CZ_same (d i hi) (fun c u h1 h2 => g1 c u (by omega)) (fun u h1 h2 => g2 u (by omega)) (hp.2.2.2.1 i hi).1.1.2.1
  · by_cases e : k = 0
    · subst e
      exact ⟨hcz.2.2.2.1, hcz.2.2.2.2⟩
    · exact ⟨by rw [g1 2 _ (by omega)]; exact (f k hk).1, by rw [g1 7 _ (by omega)]; exact (f k hk).2⟩
/-- the scratch block changes: all stays -/
theorem CI_scr {M M1 : MS} {z z' : Nat → Int32} {m t : Nat} {sv : Nat → Nat → Int32} {b R : Nat → Int32} (h : CI M z m sv t b) (hp : PI z m sv t) (h1 : CR M 27 R M1 z') : CI M1 z m sv t b := by
  obtain ⟨a, b1, ⟨c1, c2⟩, d, ⟨e1, e2⟩, f⟩ := h
  obtain ⟨hz, hcz, ⟨g1, g2, g3⟩, _⟩ := h1
  have hm := hp.2.2.1
  have hs : ∀ i, rS M1 i = rS M i := fun i => by unfold rS; rw [g3]
  refine ⟨CZ_same a (fun c u h1 h2 => g1 c u (by omega)) (fun u h1 h2 => g2 u (by omega)) hp.1.1.2.1, by rw [g1 67 216 (by omega), b1], ⟨fun i hi => by rw [hs]; exact c1 i hi, fun i j hi hj => by rw [hs, hs]; exact c2 i j hi hj⟩, fun i hi => ?_, ⟨by rw [g1 17 218 (by omega), e1], fun i hi => by rw [g2 219 (by omega), e2 i hi]⟩, fun k hk => ?_⟩
  · have := c1 i (by omega)
    rw [hs]
    exact CZ_same (d i hi) (fun c u h1 h2 => g1 c u (by omega)) (fun u h1 h2 => g2 u (by omega)) (hp.2.2.2.1 i hi).1.1.2.1
  · by_cases e : k = 1
    · subst e
      exact ⟨hcz.2.2.2.1, hcz.2.2.2.2⟩
    · exact ⟨by rw [g1 2 _ (by omega)]; exact (f k hk).1, by rw [g1 7 _ (by omega)]; exact (f k hk).2⟩
def svM (m : Nat) : Nat := if m < 6 then m + 1 else 6
def svS (sv : Nat → Nat → Int32) (m : Nat) (z : Nat → Int32) : Nat → Nat → Int32 := if m < 6 then fun i => if i = m then z else sv i else fun i => if i = 5 then z else sv (i + 1)
theorem PI_save {z : Nat → Int32} {m t : Nat} {sv : Nat → Nat → Int32} (h : PI z m sv t) : PI z (svM m) (svS sv m z) t := by
  obtain ⟨a, b, c, d, e⟩ := h
  refine ⟨a, b, by unfold svM; split <;> omega, fun i hi => ?_, e⟩
  unfold svS
  unfold svM at hi
  by_cases q : m < 6
  · rw [if_pos q] at hi ⊢
    show ZW (if i = m then z else sv i) ∧ TH (if i = m then z else sv i)
    by_cases q2 : i = m
    · rw [if_pos q2]; exact ⟨a, b⟩
    · rw [if_neg q2]; exact d i (by omega)
  · rw [if_neg q] at hi ⊢
    show ZW (if i = 5 then z else sv (i + 1)) ∧ TH (if i = 5 then z else sv (i + 1))
    by_cases q2 : i = 5
    · rw [if_pos q2]; exact ⟨a, b⟩
    · rw [if_neg q2]; exact d (i + 1) (by omega)
theorem rS_wS {M : MS} {i k j : Nat} : rS (wS M i k) j = if j = i then k else rS M j := rfl
theorem rS_wF {M : MS} {c v j : Nat} {x : Int32} : rS (wF M c v x) j = rS M j := rfl
theorem drop_eq {M : MS} (h : SP M) : ∃ M1, F_X4_dropOldest M = some M1 ∧ rF M1 67 216 = nI 5 ∧ (∀ c v, v ≠ 216 → rF M1 c v = rF M c v) ∧ M1.2.1 = M.2.1 ∧ (∀ i, i < 6 → rS M1 i = if i < 5 then rS M (i + 1) else rS M 0) ∧ M1.2.2.2 = M.2.2.2 := by
  have lt : ∀ i, i < 6 → decide (rS M i < 8) = true := fun i hi => by have := (h.1 i hi).2; simpa using this
  have t0 : Int32.toNatClampNeg 0 = 0 := tn0
  have t1 : Int32.toNatClampNeg 1 = 1 := tn1
  have t2 : Int32.toNatClampNeg (1 + 1) = 2 := by decide
  have t3 : Int32.toNatClampNeg (1 + 1 + 1) = 3 := by decide
  have t4 : Int32.toNatClampNeg (1 + 1 + 1 + 1) = 4 := by decide
  have t5 : Int32.toNatClampNeg (1 + 1 + 1 + 1 + 1) = 5 := by decide
  have s0 : Int32.toNatClampNeg (1 - 1) = 0 := by decide
  have s1 : Int32.toNatClampNeg (1 + 1 - 1) = 1 := by decide
  have s2 : Int32.toNatClampNeg (1 + 1 + 1 - 1) = 2 := by decide
  have s3 : Int32.toNatClampNeg (1 + 1 + 1 + 1 - 1) = 3 := by decide
  have s4 : Int32.toNatClampNeg (1 + 1 + 1 + 1 + 1 - 1) = 4 := by decide
  have s5 : Int32.toNatClampNeg (6 - 1) = 5 := by decide
  have e : FU = 5994 + 6 := rfl
  rw [F_X4_dropOldest, gdb_t (by decide), nm_k, t0, gdb_t (lt 0 (by decide)), e]
  rw [F_X4_dropOldest_l9, if_neg (by decide), gdb_t (by decide), nm_k, t1, gdb_t (lt 1 (by decide)), gdb_t (by decide), nm_k, s0, nm_k]
  rw [F_X4_dropOldest_l9, if_neg (by decide), gdb_t (by decide), nm_k, t2, rS_wS, if_neg (by decide), gdb_t (lt 2 (by decide)), gdb_t (by decide), nm_k, s1, nm_k]
  rw [F_X4_dropOldest_l9, if_neg (by decide), gdb_t (by decide), nm_k, t3, rS_wS, if_neg (by decide), rS_wS, if_neg (by decide), gdb_t (lt 3 (by decide)), gdb_t (by decide), nm_k, s2, nm_k]
  rw [F_X4_dropOldest_l9, if_neg (by decide), gdb_t (by decide), nm_k, t4, rS_wS, if_neg (by decide), rS_wS, if_neg (by decide), rS_wS, if_neg (by decide), gdb_t (lt 4 (by decide)), gdb_t (by decide), nm_k, s3, nm_k]
  rw [F_X4_dropOldest_l9, if_neg (by decide), gdb_t (by decide), nm_k, t5, rS_wS, if_neg (by decide), rS_wS, if_neg (by decide), rS_wS, if_neg (by decide), rS_wS, if_neg (by decide), gdb_t (lt 5 (by decide)), gdb_t (by decide), nm_k, s4, nm_k]
  rw [F_X4_dropOldest_l9, if_pos (by decide), gdb_t (by decide), nm_k, s5, nm_k]
  refine ⟨_, rfl, rF_self.trans (by decide), fun c v hv => by rw [rF_wF, if_neg (fun q => hv q.2)]; rfl, rfl, fun i hi => ?_, rfl⟩
  rcases (show i = 0 ∨ i = 1 ∨ i = 2 ∨ i = 3 ∨ i = 4 ∨ i = 5 by omega) with rfl | rfl | rfl | rfl | rfl | rfl <;> rfl
/-- the class saves -/
theorem csave1 {M : MS} {z : Nat → Int32} {m : Nat} {sv : Nat → Nat → Int32} {t : Nat} {b : Nat → Int32} (h : CI M z m sv t b) (hp : PI z m sv t) (hm : m < 6) : ∃ M', (gdb (inb (rF M 67 216) 6) (nm (rS M (Int32.toNatClampNeg (rF M 67 216))) fun k4 => gdb (decide (k4 < 8)) (bd (F_X3_copyFrom M (27 * k4) 0) fun M7 => (nm (wF M7 67 216 ((rF M7 67 216) + (1 : Int32))) fun M8 => (some M8))))) = some M' ∧ CI M' z (m + 1) (fun i => if i = m then z else sv i) t b ∧ MPart M M' ∧ rO M' = rO M := by
  obtain ⟨a, b1, ⟨c1, c2⟩, d, ⟨e1, e2⟩, f⟩ := h
  have hk := c1 m hm
  rw [b1, gdb_t (inb_nI hm (by decide)), nI_clamp (by omega), nm_k, gdb_t (by simpa using hk.2)]
  obtain ⟨M7, g1, hz, hcz, ⟨q1, q2, q3⟩, q4⟩ := copy_eq (v := 27 * rS M m) (w0 := 0) hp.1 a (f _ hk.2) (by omega)
  have hs : ∀ i, rS M7 i = rS M i := fun i => by unfold rS; rw [q3]
  have hh : rH M7 = rH M := by unfold rH; rw [q3]
  have hO : rO M7 = rO M := by unfold rO; rw [q3]
  rw [g1, bd_s, nm_k, q1 67 216 (by omega), b1, nI_1]
  refine ⟨_, rfl, ⟨?_, rF_self, ⟨fun i hi => by rw [rS_wF, hs]; exact c1 i hi, fun i j hi hj => by rw [rS_wF, rS_wF, hs, hs]; exact c2 i j hi hj⟩, fun i hi => ?_, ⟨?_, fun i hi => ?_⟩, fun k hk8 => ?_⟩, ⟨fun c => ?_, fun u hu => ?_, hh⟩, hO⟩
  · refine CZ_same a (fun c u h1 h2 => ?_) (fun u h1 h2 => ?_) hp.1.1.2.1
    · rw [rF_wF, if_neg (by omega), q1 c u (by omega)]
    · rw [rA_wF, q2 u (by omega)]
  · have hi6 : i < 6 := by omega
    have hki := c1 i hi6
    rw [rS_wF, hs]
    show CZ _ _ (if i = m then z else sv i)
    by_cases e : i = m
    · rw [if_pos e, e]
      refine CZ_same hcz (fun c u h1 h2 => ?_) (fun u h1 h2 => rfl) hp.1.1.2.1
      rw [rF_wF, if_neg (by omega)]
    · rw [if_neg e]
      have hne : rS M i ≠ rS M m := fun q => e (c2 i m hi6 hm q)
      refine CZ_same (d i (by omega)) (fun c u h1 h2 => ?_) (fun u h1 h2 => ?_) (hp.2.2.2.1 i (by omega)).1.1.2.1
      · rw [rF_wF, if_neg (by omega), q1 c u (by omega)]
      · rw [rA_wF, q2 u (by omega)]
  · rw [rF_wF, if_neg (by omega), q1 17 218 (by omega), e1]
  · rw [rA_wF, q2 219 (by omega), e2 i hi]
  · by_cases e : k = rS M m
    · rw [e]
      exact ⟨by rw [rF_wF, if_neg (by omega)]; exact hcz.2.2.2.1, by rw [rF_wF, if_neg (by omega)]; exact hcz.2.2.2.2⟩
    · exact ⟨by rw [rF_wF, if_neg (by omega), q1 2 _ (by omega)]; exact (f k hk8).1, by rw [rF_wF, if_neg (by omega), q1 7 _ (by omega)]; exact (f k hk8).2⟩
  · rw [rF_wF, if_neg (by omega), q1 c 220 (by omega)]
  · rw [rA_wF, q2 u (by omega)]
theorem csave2 {M : MS} {z : Nat → Int32} {m : Nat} {sv : Nat → Nat → Int32} {t : Nat} {b : Nat → Int32} (h : CI M z m sv t b) (hp : PI z m sv t) (hm : m < 6) : ∃ M', (if (rF M 67 216) < 0 then (some M) else (if (6 : Int32) ≤ (rF M 67 216) then (some M) else (gdb (inb (rF M 67 216) 6) (nm (rS M (Int32.toNatClampNeg (rF M 67 216))) fun k4 => gdb (decide (k4 < 8)) (bd (F_X3_copyFrom M (27 * k4) 0) fun M7 => (nm (wF M7 67 216 ((rF M7 67 216) + (1 : Int32))) fun M8 => (some M8))))))) = some M' ∧ CI M' z (m + 1) (fun i => if i = m then z else sv i) t b ∧ MPart M M' ∧ rO M' = rO M := by
  have e1 : ¬ rF M 67 216 < 0 := by rw [h.2.1]; exact nI_pos (by omega)
  have e2 : ¬ (6 : Int32) ≤ rF M 67 216 := by rw [h.2.1]; exact nI_ge (b := 6) hm (by decide)
  rw [if_neg e1, if_neg e2]
  exact csave1 h hp hm
theorem csave_eq {M : MS} {z : Nat → Int32} {m : Nat} {sv : Nat → Nat → Int32} {t : Nat} {b : Nat → Int32} (h : CI M z m sv t b) (hp : PI z m sv t) : ∃ M', F_X4_save M = some M' ∧ CI M' z (svM m) (svS sv m z) t b ∧ MPart M M' ∧ rO M' = rO M := by
  have hm6 := hp.2.2.1
  rw [F_X4_save, nm_k, h.2.1]
  unfold svM svS
  by_cases hm : m < 6
  · rw [if_pos (show nI m < (6 : Int32) from nI_lt (b := 6) hm (by decide)), if_pos hm, if_pos hm]
    exact csave2 h hp hm
  · have e6 : m = 6 := by omega
    subst e6
    obtain ⟨a, b1, ⟨c1, c2⟩, d, ⟨e1, e2⟩, f⟩ := id h
    obtain ⟨M1, g1, g2, g3, g4, g5, g6⟩ := drop_eq h.2.2.1
    have hA : ∀ u, rA M1 u = rA M u := fun u => by unfold rA; rw [g4]
    have hrow : ∀ i, i < 6 → rS M1 i = rS M (if i < 5 then i + 1 else 0) := fun i hi => by
      rw [g5 i hi]
      split <;> rfl
    have h1 : CI M1 z 5 (fun i => sv (i + 1)) t b := by
      refine ⟨CZ_same a (fun c u h1 h2 => g3 c u (by omega)) (fun u _ _ => hA u) hp.1.1.2.1, g2, ⟨fun i hi => by rw [hrow i hi]; exact c1 _ (by split <;> omega), fun i j hi hj q => ?_⟩, fun i hi => ?_, ⟨by rw [g3 17 218 (by omega), e1], fun i hi => by rw [hA, e2 i hi]⟩, fun k hk => ?_⟩
      · rw [hrow i hi, hrow j hj] at q
        have := c2 _ _ (show (if i < 5 then i + 1 else 0) < 6 by split <;> omega) (show (if j < 5 then j + 1 else 0) < 6 by split <;> omega) q
        split at this <;> split at this <;> omega
      · rw [hrow i (by omega), if_pos hi]
        have := c1 (i + 1) (by omega)
        exact CZ_same (d (i + 1) (by omega)) (fun c u h1 h2 => g3 c u (by omega)) (fun u _ _ => hA u) (hp.2.2.2.1 (i + 1) (by omega)).1.1.2.1
      · exact ⟨by rw [g3 2 _ (by omega)]; exact (f k hk).1, by rw [g3 7 _ (by omega)]; exact (f k hk).2⟩
    have hp1 : PI z 5 (fun i => sv (i + 1)) t := ⟨hp.1, hp.2.1, by omega, fun i hi => hp.2.2.2.1 (i + 1) (by omega), hp.2.2.2.2⟩
    obtain ⟨M', k1, k2, k3, k4⟩ := csave2 h1 hp1 (by decide)
    rw [if_neg (by decide), g1, bd_s, if_neg hm, if_neg hm]
    refine ⟨M', k1, k2, MPart_trans ⟨fun c => g3 c 220 (by omega), fun u _ => hA u, by unfold rH; rw [g6]⟩ k3, k4.trans (by unfold rO; rw [g6])⟩
/-- the class brings back the last saved -/
theorem cundo_eq {M : MS} {z : Nat → Int32} {m : Nat} {sv : Nat → Nat → Int32} {t : Nat} {b : Nat → Int32} (h : CI M z (m + 1) sv t b) (hp : PI z (m + 1) sv t) : ∃ M', (nm (wF M 67 216 ((rF M 67 216) - (1 : Int32))) fun M6 => (gdb (inb (rF M6 67 216) 6) (nm (rS M6 (Int32.toNatClampNeg (rF M6 67 216))) fun k8 => gdb (decide (k8 < 8)) (bd (F_X3_copyFrom M6 0 (27 * k8)) fun M11 => (some ((0 : Nat), (rF M11 67 216), M11)))))) = some (0, nI m, M') ∧ CI M' (sv m) m sv t b ∧ MPart M M' ∧ rO M' = rO M := by
  obtain ⟨a, b1, ⟨c1, c2⟩, d, ⟨e1, e2⟩, f⟩ := h
  have hm6 := hp.2.2.1
  have hk := c1 m (by omega)
  obtain ⟨hsw, hst⟩ := hp.2.2.2.1 m (by omega)
  rw [nm_k, b1, nI_pred, rF_self, gdb_t (inb_nI (by omega) (by decide)), nI_clamp (by omega), nm_k, rS_wF, gdb_t (by simpa using hk.2)]
  have hcz : CZ (wF M 67 216 (nI m)) (27 * rS M m) (sv m) := CZ_same (d m (by omega)) (fun c u h1 h2 => by rw [rF_wF, if_neg (by omega)]) (fun _ _ _ => rfl) hsw.1.2.1
  have hnb : NB (wF M 67 216 (nI m)) 0 := ⟨by rw [rF_wF, if_neg (by omega)]; exact (f 0 (by decide)).1, by rw [rF_wF, if_neg (by omega)]; exact (f 0 (by decide)).2⟩
  obtain ⟨M7, g1, hz, hc7, ⟨q1, q2, q3⟩, q4⟩ := copy_eq (v := 0) (w0 := 27 * rS M m) hsw hcz hnb (by omega)
  have hs : ∀ i, rS M7 i = rS M i := fun i => by unfold rS; rw [q3]; rfl
  rw [g1, bd_s, q1 67 216 (by omega), rF_self]
  refine ⟨M7, rfl, ⟨hc7, by rw [q1 67 216 (by omega), rF_self], ⟨fun i hi => by rw [hs]; exact c1 i hi, fun i j hi hj => by rw [hs, hs]; exact c2 i j hi hj⟩, fun i hi => ?_, ⟨?_, fun i hi => ?_⟩, fun k hk8 => ?_⟩, ⟨fun c => ?_, fun u hu => ?_, by unfold rH; rw [q3]; rfl⟩, by unfold rO; rw [q3]; rfl⟩
  · have hki := c1 i (by omega)
    rw [hs]
    refine CZ_same (d i (by omega)) (fun c u h1 h2 => ?_) (fun u h1 h2 => ?_) (hp.2.2.2.1 i (by omega)).1.1.2.1
    · rw [q1 c u (by omega), rF_wF, if_neg (by omega)]
    · rw [q2 u (by omega), rA_wF]
  · rw [q1 17 218 (by omega), rF_wF, if_neg (by omega), e1]
  · rw [q2 219 (by omega), rA_wF, e2 i hi]
  · by_cases e : k = 0
    · subst e
      exact ⟨hc7.2.2.2.1, hc7.2.2.2.2⟩
    · exact ⟨by rw [q1 2 _ (by omega), rF_wF, if_neg (by omega)]; exact (f k hk8).1, by rw [q1 7 _ (by omega), rF_wF, if_neg (by omega)]; exact (f k hk8).2⟩
  · rw [q1 c 220 (by omega), rF_wF, if_neg (by omega)]
  · rw [q2 u (by omega), rA_wF]

