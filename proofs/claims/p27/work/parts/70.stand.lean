/-! a fighter stands ahead of another, or behind -/
def kk (p q i : Nat) : Nat := i - (if p < i then 1 else 0) + (if q < i then 1 else 0)
def tt (b : Bool) (p q : Nat) : Nat := if b = true then (if p < q + 1 then q else q + 1) else (if p < q then q - 1 else q)
def kq (b : Bool) (p q i : Nat) : Nat := if i = q ∧ b = false then kk p q i + 1 else kk p q i
def sr (t p k : Nat) : Nat := if k < t then (if k < p then k else k + 1) else (if k - 1 < p then k - 1 else k)
def chk (P : Nat → Nat → Nat → Nat → Bool) : Bool := (List.range 7).all fun n => (List.range n).all fun p => (List.range n).all fun q => (p == q) || (List.range n).all fun i => P n p q i
theorem chk_of {P : Nat → Nat → Nat → Nat → Bool} (h : chk P = true) {n p q i : Nat} (hn : n < 7) (hp : p < n) (hq : q < n) (hpq : p ≠ q) (hi : i < n) : P n p q i = true := by
  have h1 := List.all_eq_true.mp h n (List.mem_range.mpr hn)
  have h2 := List.all_eq_true.mp h1 p (List.mem_range.mpr hp)
  have h3 := List.all_eq_true.mp h2 q (List.mem_range.mpr hq)
  rw [Bool.or_eq_true] at h3
  rcases h3 with h3 | h3
  · exact absurd (by simpa using h3) hpq
  · exact List.all_eq_true.mp h3 i (List.mem_range.mpr hi)
theorem src_c : chk (fun n p q i => i == p || (decide (kq false p q i ≠ tt false p q) && (decide (kq false p q i < n) && (decide (sr (tt false p q) p (kq false p q i) = i) && (decide (kq true p q i ≠ tt true p q) && (decide (kq true p q i < n) && decide (sr (tt true p q) p (kq true p q i) = i))))))) = true := by decide +kernel
theorem src_b (b : Bool) {n p q i : Nat} (h6 : n ≤ 6) (hp : p < n) (hq : q < n) (hpq : p ≠ q) (hi : i < n) (hip : i ≠ p) : kq b p q i ≠ tt b p q ∧ kq b p q i < n ∧ sr (tt b p q) p (kq b p q i) = i := by
  have h := chk_of src_c (by omega) hp hq hpq hi
  simp only [Bool.or_eq_true, Bool.and_eq_true, decide_eq_true_eq, beq_iff_eq] at h
  rcases h with h | ⟨a1, a2, a3, a4, a5, a6⟩
  · exact absurd h hip
  · cases b
    · exact ⟨a1, a2, a3⟩
    · exact ⟨a4, a5, a6⟩
theorem tt_c : chk (fun n p q i => decide (kk p q q = tt false p q) && (decide (tt false p q < n) && (decide (kk p q q + 1 = tt true p q) && (decide (tt true p q < n) && (decide (kk p q n = n) && (decide (kk p q 0 = 0) && decide (kk p q (i + 1) = if i = p then kk p q i else if i = q then kk p q i + 2 else kk p q i + 1))))))) = true := by decide +kernel
theorem tt_f (n : Nat) (h6 : n < 7) (p : Nat) (hp : p < n) (q : Nat) (hq : q < n) (hpq : p ≠ q) : kk p q q = tt false p q ∧ tt false p q < n ∧ kk p q q + 1 = tt true p q ∧ tt true p q < n := by
  have h := chk_of tt_c h6 hp hq hpq hp
  simp only [Bool.and_eq_true, decide_eq_true_eq] at h
  exact ⟨h.1, h.2.1, h.2.2.1, h.2.2.2.1⟩
theorem kk_f (n : Nat) (h6 : n < 7) (p : Nat) (hp : p < n) (q : Nat) (hq : q < n) (hpq : p ≠ q) : kk p q n = n ∧ kk p q 0 = 0 ∧ ∀ i, i < n → kk p q (i + 1) = if i = p then kk p q i else if i = q then kk p q i + 2 else kk p q i + 1 := by
  have h := chk_of tt_c h6 hp hq hpq hp
  simp only [Bool.and_eq_true, decide_eq_true_eq] at h
  refine ⟨h.2.2.2.2.1, h.2.2.2.2.2.1, fun i hi => ?_⟩
  have h2 := chk_of tt_c h6 hp hq hpq hi
  simp only [Bool.and_eq_true, decide_eq_true_eq] at h2
  exact h2.2.2.2.2.2.2
/-- the row that is made -/
def TG (z : Nat → Int32) (b : Bool) (f c : Nat) (j : Nat) : Int32 := zmv z (nI f) (zpn z f) (tt b (zpn z f) (zpn z c)) (6 + j)
theorem TG_f {z : Nat → Int32} {b : Bool} {f c : Nat} (hz : Z0 z) (h6 : zn z ≤ 6) (hf : f < zn z) (hc : c < zn z) (hne : f ≠ c) : TG z b f c (tt b (zpn z f) (zpn z c)) = nI f := by
  obtain ⟨p1, p2, p3⟩ := zpn_lt hz hf
  obtain ⟨q1, q2, q3⟩ := zpn_lt hz hc
  have hpq : zpn z f ≠ zpn z c := fun e => hne (by rw [← p3, ← q3, e])
  have ht : tt b (zpn z f) (zpn z c) < zn z := by
    obtain ⟨_, a, _, d⟩ := tt_f (zn z) (by omega) _ p1 _ q1 hpq
    cases b
    · exact a
    · exact d
  unfold TG
  rw [zmv_row ht p1 ht, if_pos rfl]
theorem TG_r {z : Nat → Int32} {b : Bool} {f c i : Nat} (hz : Z0 z) (h6 : zn z ≤ 6) (hf : f < zn z) (hc : c < zn z) (hne : f ≠ c) (hi : i < zn z) (hip : i ≠ zpn z f) : kq b (zpn z f) (zpn z c) i < zn z ∧ TG z b f c (kq b (zpn z f) (zpn z c) i) = z (6 + i) := by
  obtain ⟨p1, p2, p3⟩ := zpn_lt hz hf
  obtain ⟨q1, q2, q3⟩ := zpn_lt hz hc
  have hpq : zpn z f ≠ zpn z c := fun e => hne (by rw [← p3, ← q3, e])
  obtain ⟨a, b1, c1⟩ := src_b b h6 p1 q1 hpq hi hip
  have ht : tt b (zpn z f) (zpn z c) < zn z := by
    obtain ⟨_, a9, _, d9⟩ := tt_f (zn z) (by omega) _ p1 _ q1 hpq
    cases b
    · assumption
    · assumption
  refine ⟨b1, ?_⟩
  unfold TG
  rw [zmv_row b1 p1 ht, if_neg a]
  unfold sr at c1
  split <;> split <;> simp_all
def bi (b : Bool) : Int32 := if b = true then 1 else 0
/-- rows other than one stay -/
def O1 (u : Nat) (M M1 : MS) : Prop := M1.1 = M.1 ∧ (∀ v, v ≠ u → rA M1 v = rA M v) ∧ M1.2.2 = M.2.2
theorem O1_refl {u : Nat} {M : MS} : O1 u M M := ⟨rfl, fun _ _ => rfl, rfl⟩
theorem O1_trans {u : Nat} {M M1 M2 : MS} (h1 : O1 u M M1) (h2 : O1 u M1 M2) : O1 u M M2 := ⟨h2.1.trans h1.1, fun v h => (h2.2.1 v h).trans (h1.2.1 v h), h2.2.2.trans h1.2.2⟩
theorem O1_A {u i : Nat} {x : Int32} {M : MS} : O1 u M (wA M u i x) := ⟨rfl, fun v h => rA_wAn h, rfl⟩
theorem LF_O1 {u : Nat} {M M1 : MS} (h : O1 u M M1) (hu : 220 ≤ u) : LF M M1 := ⟨fun c v => by unfold rF; rw [h.1], fun v hv => h.2.1 v (by omega), h.2.2⟩
theorem stand12 {z : Nat → Int32} {b : Bool} {f c : Nat} (hz : Z0 z) (h6 : zn z ≤ 6) (hf : f < zn z) (hc : c < zn z) (hne : f ≠ c) : ∀ d i k (M : MS), i + d = zn z → d < k → (∀ j, j < zn z → rA M 222 j = z (6 + j)) → (∀ j, j < kk (zpn z f) (zpn z c) i → rA M 225 j = TG z b f c j) → ∃ M', F_L_stand_l12 (nI (zn z)) (nI f) (nI c) (bi b) k (nI (kk (zpn z f) (zpn z c) i)) (nI i) M = F_L_stand_l93 (nI (zn z)) (nI f) (nI c) FU 0 M' ∧ (∀ j, j < zn z → rA M' 225 j = TG z b f c j) ∧ O1 225 M M' := by
  obtain ⟨p1, p2, p3⟩ := zpn_lt hz hf
  obtain ⟨q1, q2, q3⟩ := zpn_lt hz hc
  have hpq : zpn z f ≠ zpn z c := fun e => hne (by rw [← p3, ← q3, e])
  obtain ⟨k1, k2, k3⟩ := kk_f (zn z) (by omega) _ p1 _ q1 hpq
  obtain ⟨t1, t2, t3, t4⟩ := tt_f (zn z) (by omega) _ p1 _ q1 hpq
  intro d
  induction d with
  | zero =>
    intro i k M hi hk hr hw
    obtain ⟨k, rfl⟩ : ∃ q, k = q + 1 := ⟨k - 1, by omega⟩
    have e : i = zn z := by omega
    subst e
    rw [F_L_stand_l12, if_pos (nI_le (Nat.le_refl _) (by omega))]
    exact ⟨M, rfl, fun j hj => hw j (by rw [k1]; exact hj), O1_refl⟩
  | succ d ih =>
    intro i k M hi hk hr hw
    obtain ⟨k, rfl⟩ : ∃ q, k = q + 1 := ⟨k - 1, by omega⟩
    have hin : i < zn z := by omega
    obtain ⟨r1, r2⟩ := hz.2.2.1 i hin
    have hkk := k3 i hin
    have isc : nI (zrow z i) = nI c ↔ i = zpn z c := by
      rw [nI_eq (by omega) (by omega)]
      exact ⟨fun e => hz.2.2.2 _ _ hin q1 (e.trans q3.symm), fun e => by rw [e, q3]⟩
    have isf' : nI (zrow z i) = nI f ↔ i = zpn z f := by
      rw [nI_eq (by omega) (by omega)]
      exact ⟨fun e => hz.2.2.2 _ _ hin p1 (e.trans p3.symm), fun e => by rw [e, p3]⟩
    have hri : ∀ M2 : MS, (∀ j, j < zn z → rA M2 222 j = z (6 + j)) → rA M2 222 (nI i).toNatClampNeg = nI (zrow z i) := fun M2 h2 => by rw [nI_clamp (by omega), h2 i hin, r1]
    rw [F_L_stand_l12, if_neg (nI_ge (by omega) (by omega)), gdb_t (inb_nI (by omega) (by decide))]
    simp only [nm_k]
    rw [hri M hr]
    by_cases c1 : i = zpn z c
    · -- the other one's place: two are written
      have cp : ¬ i = zpn z f := fun e => hpq (e.symm.trans c1)
      rw [if_neg cp, if_pos c1] at hkk
      have hkn : kk (zpn z f) (zpn z c) i + 1 < zn z := by rw [c1, t3]; exact t4
      cases b with
      | false =>
        obtain ⟨w1, w2⟩ := TG_r (b := false) hz h6 hf hc hne hin cp
        have e1 : kq false (zpn z f) (zpn z c) i = kk (zpn z f) (zpn z c) i + 1 := by unfold kq; rw [if_pos ⟨c1, rfl⟩]
        rw [e1] at w2
        have e0 : TG z false f c (kk (zpn z f) (zpn z c) i) = nI f := by rw [c1, t1]; exact TG_f hz h6 hf hc hne
        have hr1 : ∀ j, j < zn z → rA (wA M 225 (kk (zpn z f) (zpn z c) i) (nI f)) 222 j = z (6 + j) := fun j hj => by rw [rA_wAn (by decide)]; exact hr j hj
        have hr2 : ∀ j, j < zn z → rA (wA (wA M 225 (kk (zpn z f) (zpn z c) i) (nI f)) 225 (kk (zpn z f) (zpn z c) i + 1) (nI (zrow z i))) 222 j = z (6 + j) := fun j hj => by rw [rA_wAn (by decide)]; exact hr1 j hj
        rw [if_neg (fun q => q (isc.mpr c1)), if_neg (fun q => q rfl), gdb_t (inb_nI (by omega) (by decide)), nI_clamp (n := kk (zpn z f) (zpn z c) i) (by omega), gdb_t (inb_nI (by omega) (by decide)), hri _ hr1, if_neg (fun q => cp (isf'.mp q)), gdb_t (inb_nI (by omega) (by decide)), nI_1, gdb_t (inb_nI (by omega) (by decide)), nI_clamp (n := kk (zpn z f) (zpn z c) i + 1) (by omega), gdb_t (inb_nI (by omega) (by decide)), hri _ hr2, if_neg (fun q => q (isc.mpr c1)), if_pos (show bi false = 0 from rfl), nI_1, nI_1]
        obtain ⟨M', g1, g2, g3⟩ := ih (i + 1) k (wA (wA M 225 (kk (zpn z f) (zpn z c) i) (nI f)) 225 (kk (zpn z f) (zpn z c) i + 1) (nI (zrow z i))) (by omega) (by omega) hr2 (fun j hj => by
          rw [hkk] at hj
          rw [rA_wA]
          by_cases cj : j = kk (zpn z f) (zpn z c) i + 1
          · rw [cj, upd_s, w2, r1]
          · rw [upd_n cj, rA_wA]
            by_cases cj2 : j = kk (zpn z f) (zpn z c) i
            · rw [cj2, upd_s, e0]
            · rw [upd_n cj2]; exact hw j (by omega))
        rw [hkk] at g1
        exact ⟨M', g1, g2, O1_trans (O1_trans O1_A O1_A) g3⟩
      | true =>
        obtain ⟨w1, w2⟩ := TG_r (b := true) hz h6 hf hc hne hin cp
        have e1 : kq true (zpn z f) (zpn z c) i = kk (zpn z f) (zpn z c) i := by unfold kq; rw [if_neg (fun q => absurd q.2 (by decide))]
        rw [e1] at w2
        have e0 : TG z true f c (kk (zpn z f) (zpn z c) i + 1) = nI f := by rw [c1, t3]; exact TG_f hz h6 hf hc hne
        have hr1 : ∀ j, j < zn z → rA (wA M 225 (kk (zpn z f) (zpn z c) i) (nI (zrow z i))) 222 j = z (6 + j) := fun j hj => by rw [rA_wAn (by decide)]; exact hr j hj
        rw [if_neg (fun q => q (isc.mpr c1)), if_pos (show ¬ bi true = 0 by decide), gdb_t (inb_nI (by omega) (by decide)), if_neg (fun q => cp (isf'.mp q)), gdb_t (inb_nI (by omega) (by decide)), gdb_t (inb_nI (by omega) (by decide)), nI_clamp (n := kk (zpn z f) (zpn z c) i) (by omega), gdb_t (inb_nI (by omega) (by decide)), hri _ hr1, if_neg (fun q => q (isc.mpr c1)), if_neg (show ¬ bi true = 0 by decide), nI_1, gdb_t (inb_nI (by omega) (by decide)), nI_clamp (n := kk (zpn z f) (zpn z c) i + 1) (by omega), nI_1, nI_1]
        obtain ⟨M', g1, g2, g3⟩ := ih (i + 1) k (wA (wA M 225 (kk (zpn z f) (zpn z c) i) (nI (zrow z i))) 225 (kk (zpn z f) (zpn z c) i + 1) (nI f)) (by omega) (by omega) (fun j hj => by rw [rA_wAn (by decide)]; exact hr1 j hj) (fun j hj => by
          rw [hkk] at hj
          rw [rA_wA]
          by_cases cj : j = kk (zpn z f) (zpn z c) i + 1
          · rw [cj, upd_s, e0]
          · rw [upd_n cj, rA_wA]
            by_cases cj2 : j = kk (zpn z f) (zpn z c) i
            · rw [cj2, upd_s, w2, r1]
            · rw [upd_n cj2]; exact hw j (by omega))
        rw [hkk] at g1
        exact ⟨M', g1, g2, O1_trans (O1_trans O1_A O1_A) g3⟩
    rw [if_pos (fun q => c1 (isc.mp q)), gdb_t (inb_nI (by omega) (by decide))]
    by_cases c2 : i = zpn z f
    · rw [if_pos c2] at hkk
      rw [if_pos (isf'.mpr c2), gdb_t (inb_nI (by omega) (by decide)), if_pos (fun q => c1 (isc.mp q)), nI_1]
      have hi1 := ih (i + 1) k M (by omega) (by omega) hr (by rw [hkk]; exact hw)
      rw [hkk] at hi1
      exact hi1
    · rw [if_neg c2, if_neg c1] at hkk
      obtain ⟨w1, w2⟩ := TG_r (b := b) hz h6 hf hc hne hin c2
      have e1 : kq b (zpn z f) (zpn z c) i = kk (zpn z f) (zpn z c) i := by unfold kq; rw [if_neg (fun q => c1 q.1)]
      rw [e1] at w1 w2
      have hr1 : ∀ j, j < zn z → rA (wA M 225 (kk (zpn z f) (zpn z c) i) (nI (zrow z i))) 222 j = z (6 + j) := fun j hj => by rw [rA_wAn (by decide)]; exact hr j hj
      rw [if_neg (fun q => c2 (isf'.mp q)), gdb_t (inb_nI (by omega) (by decide)), gdb_t (inb_nI (by omega) (by decide)), nI_clamp (n := kk (zpn z f) (zpn z c) i) (by omega), gdb_t (inb_nI (by omega) (by decide)), hri _ hr1, if_pos (fun q => c1 (isc.mp q)), nI_1, nI_1]
      obtain ⟨M', g1, g2, g3⟩ := ih (i + 1) k (wA M 225 (kk (zpn z f) (zpn z c) i) (nI (zrow z i))) (by omega) (by omega) hr1 (fun j hj => by
        rw [hkk] at hj
        rw [rA_wA]
        by_cases cj : j = kk (zpn z f) (zpn z c) i
        · rw [cj, upd_s, w2, r1]
        · rw [upd_n cj]; exact hw j (by omega))
      rw [hkk] at g1
      exact ⟨M', g1, g2, O1_trans O1_A g3⟩
