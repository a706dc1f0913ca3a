/-! the row of the class: taken out, put in -/
def pr (M : MS) (u : Nat) (R : Nat → Int32) : MS := (M.1, fun v => if v = u then R else M.2.1 v, M.2.2)
theorem pr_A {M : MS} {u : Nat} {R : Nat → Int32} : rA (pr M u R) u = R := by simp [rA, pr]
theorem pr_An {M : MS} {u w : Nat} {R : Nat → Int32} (h : w ≠ u) : rA (pr M u R) w = rA M w := by simp [rA, pr, h]
theorem pr_F {M : MS} {u c v : Nat} {R : Nat → Int32} : rF (pr M u R) c v = rF M c v := rfl
theorem wA_pr {M : MS} {u i : Nat} {x : Int32} : wA M u i x = pr M u (upd (rA M u) i x) := rfl
theorem pr_pr {M : MS} {u : Nat} {R R' : Nat → Int32} : pr (pr M u R) u R' = pr M u R' := by
  unfold pr
  congr 2
  funext v
  by_cases h : v = u <;> simp [h]
theorem pr_self {M : MS} {u : Nat} : pr M u (rA M u) = M := by
  unfold pr rA
  refine Prod.ext rfl (Prod.ext (funext fun v => ?_) rfl)
  by_cases h : v = u <;> simp [h]
theorem nat_r {M : MS} {v n i : Nat} (hn : n ≤ 10) (h : rF M 33 v = nI n) (hi : i < n) : F_X2_numberAt M v (nI i) = some (rA M (v + 1) i) := by
  rw [F_X2_numberAt, if_neg (nI_pos (by omega)), h, if_neg (nI_ge (by omega) (by omega)), if_neg (show ¬ (10 : Int32) ≤ nI i from nI_ge (b := 10) (by omega) (by decide)), gdb_t (inb_nI (by omega) (by omega)), nI_clamp (by omega)]
theorem plc_l {M : MS} {v n j : Nat} {x : Int32} (hn : n ≤ 10) (h : rF M 33 v = nI n) (hj : j < n) (he : rA M (v + 1) j = x) (hne : ∀ i, i < j → ¬ rA M (v + 1) i = x) : ∀ d i k, i + d = j → d < k → F_X2_placeOf_l2 v x M k (nI i) = some (nI j) := by
  intro d
  induction d with
  | zero =>
    intro i k hi hk
    obtain ⟨k, rfl⟩ : ∃ q, k = q + 1 := ⟨k - 1, by omega⟩
    have e : i = j := by omega
    subst e
    rw [F_X2_placeOf_l2, h, if_neg (nI_ge (by omega) (by omega)), nat_r hn h hj, bd_s, he, if_neg (fun q => q rfl)]
  | succ d ih =>
    intro i k hi hk
    obtain ⟨k, rfl⟩ : ∃ q, k = q + 1 := ⟨k - 1, by omega⟩
    rw [F_X2_placeOf_l2, h, if_neg (nI_ge (by omega) (by omega)), nat_r hn h (by omega), bd_s, if_pos (hne i (by omega)), nm_k, nI_1]
    exact ih (i + 1) k (by omega) (by omega)
theorem plc_eq {M : MS} {v n j : Nat} {x : Int32} (hn : n ≤ 10) (h : rF M 33 v = nI n) (hj : j < n) (he : rA M (v + 1) j = x) (hne : ∀ i, i < j → ¬ rA M (v + 1) i = x) : F_X2_placeOf M v x = some (nI j) := by
  rw [F_X2_placeOf]
  exact plc_l hn h hj he hne j 0 FU (by omega) (by rw [FU_s]; omega)
def tk (r : Nat → Int32) (p j : Nat) : Nat → Int32 := fun i => if p ≤ i ∧ i + 1 < j then r (i + 1) else r i
theorem tk_at {r : Nat → Int32} {p j i : Nat} (h : j ≤ i + 1) : tk r p j i = r i := by unfold tk; rw [if_neg (by omega)]
theorem tk_p {r : Nat → Int32} {p : Nat} : tk r p (p + 1) = tk r p p := by
  funext i
  unfold tk
  rw [if_neg (by omega), if_neg (by omega)]
theorem tk_up {r : Nat → Int32} {p j : Nat} (h : j ≠ p) : upd (tk r p j) (if j ≤ p then j else j - 1) (r j) = tk r p (j + 1) := by
  funext i
  unfold upd tk
  by_cases c : j ≤ p
  · rw [if_pos c]
    by_cases e : i = j
    · rw [if_pos e, if_neg (by omega), e]
    · rw [if_neg e, if_neg (by omega), if_neg (by omega)]
  · rw [if_neg c]
    by_cases e : i = j - 1
    · rw [if_pos e, if_pos (by omega), show i + 1 = j by omega]
    · rw [if_neg e]
      by_cases q : p ≤ i ∧ i + 1 < j
      · rw [if_pos q, if_pos (by omega)]
      · rw [if_neg q, if_neg (by omega)]
theorem out_l {M : MS} {v n p : Nat} {x : Int32} {r : Nat → Int32} (hn : n ≤ 10) (h : rF M 33 v = nI n) (hp : p < n) (hr : ∀ i, i < n → (r i = x ↔ i = p)) : ∀ d j k, j + d = n → d < k → F_X2_takeOut_l4 v x k (nI (if j ≤ p then j else j - 1)) (nI j) (pr M (v + 1) (tk r p j)) = some (wF (pr M (v + 1) (tk r p n)) 33 v (nI (n - 1))) := by
  intro d
  induction d with
  | zero =>
    intro j k hj hk
    obtain ⟨k, rfl⟩ : ∃ q, k = q + 1 := ⟨k - 1, by omega⟩
    have e : j = n := by omega
    subst e
    rw [F_X2_takeOut_l4, nm_k, nm_k, pr_F, h, if_pos (nI_le (by omega) (by omega)), if_neg (by omega)]
  | succ d ih =>
    intro j k hj hk
    obtain ⟨k, rfl⟩ : ∃ q, k = q + 1 := ⟨k - 1, by omega⟩
    have ih' := ih (j + 1) k (by omega) (by omega)
    rw [F_X2_takeOut_l4, nm_k, nm_k, pr_F, h, if_neg (nI_ge (by omega) (by omega)), if_neg (show ¬ (10 : Int32) ≤ nI j from nI_ge (b := 10) (by omega) (by decide)), gdb_t (inb_nI (by omega) (by omega)), nI_clamp (by omega), pr_A, tk_at (by omega)]
    by_cases c : j = p
    · subst c
      rw [if_pos ((hr j hp).mpr rfl), nm_k, nI_1]
      rw [if_neg (by omega), show j + 1 - 1 = j by omega, tk_p] at ih'
      rw [if_pos (Nat.le_refl _)]
      exact ih'
    · have hkl : (if j ≤ p then j else j - 1) < 10 := by split <;> omega
      rw [if_neg (fun q => c ((hr j (by omega)).mp q)), gdb_t (inb_nI (by omega) (by omega)), gdb_t (inb_nI hkl (by omega)), nI_clamp (by omega), nm_k, nm_k, nm_k, nI_1, nI_1, wA_pr, pr_pr, pr_A, tk_up c]
      have e : (if j ≤ p then j else j - 1) + 1 = if j + 1 ≤ p then j + 1 else j + 1 - 1 := by split <;> split <;> omega
      rw [e]
      exact ih'
theorem out_eq {M : MS} {v n p : Nat} {x : Int32} (hn : n ≤ 10) (h : rF M 33 v = nI n) (hp : p < n) (hr : ∀ i, i < n → (rA M (v + 1) i = x ↔ i = p)) : F_X2_takeOut M v x = some (wF (pr M (v + 1) (tk (rA M (v + 1)) p n)) 33 v (nI (n - 1))) := by
  have h0 := out_l (r := rA M (v + 1)) hn h hp hr n 0 FU (by omega) (by rw [FU_s]; omega)
  have e : tk (rA M (v + 1)) p 0 = rA M (v + 1) := by funext i; exact tk_at (by omega)
  rw [if_pos (Nat.zero_le _), e, pr_self] at h0
  rw [F_X2_takeOut]
  exact h0
def ins (r : Nat → Int32) (n k : Nat) : Nat → Int32 := fun i => if k < i ∧ i ≤ n then r (i - 1) else r i
theorem ins_up {r : Nat → Int32} {n c : Nat} (h : c + 1 ≤ n) : upd (ins r n (c + 1)) (c + 1) (ins r n (c + 1) c) = ins r n c := by
  funext i
  unfold upd ins
  by_cases e : i = c + 1
  · rw [if_pos e, if_neg (by omega), if_pos (by omega), show i - 1 = c by omega]
  · rw [if_neg e]
    by_cases q : c + 1 < i ∧ i ≤ n
    · rw [if_pos q, if_pos (by omega)]
    · rw [if_neg q, if_neg (by omega)]
theorem ins_l {M : MS} {v n t : Nat} {x : Int32} {r : Nat → Int32} (hn : n < 10) (h : rF M 33 v = nI n) : ∀ d c k, c = t + d → c ≤ n → d < k → F_X2_insert_l30 v x (nI t) k (nI c) (pr M (v + 1) (ins r n c)) = some (wF (pr M (v + 1) (upd (ins r n t) t x)) 33 v (nI (n + 1))) := by
  intro d
  induction d with
  | zero =>
    intro c k hc hcn hk
    obtain ⟨k, rfl⟩ : ∃ q, k = q + 1 := ⟨k - 1, by omega⟩
    have e : c = t := by omega
    subst e
    rw [F_X2_insert_l30, if_pos (nI_le (Nat.le_refl _) (by omega)), gdb_t (inb_nI (by omega) (by omega)), nI_clamp (by omega), nm_k, nm_k, wA_pr, pr_pr, pr_A, pr_F, h, nI_1]
  | succ d ih =>
    intro c k hc hcn hk
    obtain ⟨k, rfl⟩ : ∃ q, k = q + 1 := ⟨k - 1, by omega⟩
    obtain ⟨c, rfl⟩ : ∃ q, c = q + 1 := ⟨c - 1, by omega⟩
    rw [F_X2_insert_l30, if_neg (nI_ge (by omega) (by omega)), nI_pred, gdb_t (inb_nI (by omega) (by omega)), gdb_t (inb_nI (by omega) (by omega)), nI_clamp (by omega), nI_clamp (by omega), nm_k, nm_k, pk_m1, wA_pr, pr_pr, pr_A, ins_up (by omega)]
    exact ih c k (by omega) (by omega) (by omega)
theorem ins_eq {M : MS} {v n t : Nat} {x : Int32} (hn : n < 10) (h : rF M 33 v = nI n) (ht : t ≤ n) : F_X2_insert M v x (nI t) = some (wF (pr M (v + 1) (upd (ins (rA M (v + 1)) n t) t x)) 33 v (nI (n + 1))) := by
  have h0 := ins_l (M := M) (x := x) (t := t) (r := rA M (v + 1)) hn h (n - t) n FU (by omega) (Nat.le_refl _) (by rw [FU_s]; omega)
  have e : ins (rA M (v + 1)) n n = rA M (v + 1) := by
    funext i
    unfold ins
    rw [if_neg (by omega)]
  rw [e, pr_self] at h0
  rw [F_X2_insert, if_neg (nI_pos (by omega)), h, if_neg (nI_nlt ht (by omega)), if_pos (show nI n < (10 : Int32) from nI_lt (b := 10) hn (by decide)), nm_k]
  exact h0
/-- moved: the row then -/
def tkq (p q : Nat) : Nat := if q < p then q else q - 1
theorem tk_q {r : Nat → Int32} {p q n : Nat} (hq : q < n) (hpq : p ≠ q) : tk r p n (tkq p q) = r q := by
  unfold tk tkq
  by_cases c : q < p
  · rw [if_pos c, if_neg (by omega)]
  · rw [if_neg c, if_pos (by omega), show q - 1 + 1 = q by omega]
theorem tk_nq {r : Nat → Int32} {p q n i : Nat} {y : Int32} (hr : ∀ i, i < n → r i = y → i = q) (hpq : p ≠ q) (hq : q < n) (hi : i < tkq p q) : ¬ tk r p n i = y := by
  intro e
  unfold tk at e
  unfold tkq at hi
  split at e
  · have := hr (i + 1) (by omega) e
    split at hi <;> omega
  · have := hr i (by split at hi <;> omega) e
    split at hi <;> omega
theorem wF_back {M : MS} {v u n : Nat} {R R' : Nat → Int32} {a : Int32} (h : rF M 33 v = nI n) : wF (pr (wF (pr M u R) 33 v a) u R') 33 v (nI n) = pr M u R' := by
  refine Prod.ext ?_ ?_
  · funext c w
    show (if c = 33 ∧ w = v then nI n else if c = 33 ∧ w = v then a else M.1 c w) = M.1 c w
    by_cases e : c = 33 ∧ w = v
    · rw [if_pos e, e.1, e.2]; exact h.symm
    · rw [if_neg e, if_neg e]
  · refine Prod.ext (funext fun w => ?_) rfl
    show (if w = u then R' else if w = u then R else M.2.1 w) = if w = u then R' else M.2.1 w
    by_cases e : w = u
    · rw [if_pos e, if_pos e]
    · rw [if_neg e, if_neg e, if_neg e]
def mvR (r : Nat → Int32) (n p t : Nat) (x : Int32) : Nat → Int32 := upd (ins (tk r p n) (n - 1) t) t x
theorem mv_both {M : MS} {v n p q : Nat} {x y : Int32} (hn : n ≤ 10) (h : rF M 33 v = nI n) (hp : p < n) (hq : q < n) (hpq : p ≠ q) (hx : ∀ i, i < n → (rA M (v + 1) i = x ↔ i = p)) (hy : ∀ i, i < n → (rA M (v + 1) i = y ↔ i = q)) :
    F_X2_moveAheadOf M v x y = some (pr M (v + 1) (mvR (rA M (v + 1)) n p (tkq p q) x)) ∧ F_X2_moveBehind M v x y = some (pr M (v + 1) (mvR (rA M (v + 1)) n p (tkq p q + 1) x)) := by
  have htk : tkq p q < n - 1 := by unfold tkq; split <;> omega
  obtain ⟨M2, hM2⟩ : ∃ M2, wF (pr M (v + 1) (tk (rA M (v + 1)) p n)) 33 v (nI (n - 1)) = M2 := ⟨_, rfl⟩
  have h33 : rF M2 33 v = nI (n - 1) := by rw [← hM2, rF_self]
  have hrow : rA M2 (v + 1) = tk (rA M (v + 1)) p n := by rw [← hM2, rA_wF, pr_A]
  have hpl : F_X2_placeOf M2 v y = some (nI (tkq p q)) := plc_eq (n := n - 1) (by omega) h33 htk (by rw [hrow, tk_q hq hpq]; exact (hy q hq).mpr rfl) (fun i hi => by
    rw [hrow]
    exact tk_nq (fun i hi e => (hy i hi).mp e) hpq hq hi)
  have hins : ∀ t, t ≤ n - 1 → F_X2_insert M2 v x (nI t) = some (pr M (v + 1) (mvR (rA M (v + 1)) n p t x)) := fun t ht => by
    have := ins_eq (M := M2) (v := v) (n := n - 1) (t := t) (x := x) (by omega) h33 ht
    rw [hrow, ← hM2, show n - 1 + 1 = n by omega, wF_back h] at this
    rw [← hM2]
    exact this
  constructor
  · rw [F_X2_moveAheadOf, out_eq hn h hp hx, hM2, bd_s, hpl, bd_s, hins _ (by omega), bd_s]
  · rw [F_X2_moveBehind, out_eq hn h hp hx, hM2, bd_s, hpl, bd_s, nI_1, hins _ (by omega), bd_s]
theorem mvR_zmv {z r : Nat → Int32} {p t : Nat} {x : Int32} (hp : p < zn z) (ht : t < zn z) (hr : ∀ i, i < zn z → r i = z (6 + i)) : ∀ i, i < zn z → mvR r (zn z) p t x i = zmv z x p t (6 + i) := by
  intro i hi
  rw [zmv_row hi hp ht]
  unfold mvR upd ins tk
  by_cases c1 : i = t
  · rw [if_pos c1, if_pos c1]
  · rw [if_neg c1, if_neg c1]
    by_cases c2 : i < t
    · rw [if_neg (by omega), if_pos c2]
      by_cases c3 : i < p
      · rw [if_neg (by omega), if_pos c3, hr i hi]
      · rw [if_pos (by omega), if_neg c3, hr _ (by omega)]
    · rw [if_pos (by omega), if_neg c2]
      by_cases c3 : i - 1 < p
      · rw [if_neg (by omega), if_pos c3, hr _ (by omega)]
      · rw [if_pos (by omega), if_neg c3, show i - 1 + 1 = i by omega, hr _ hi]
theorem CR_row {M0 M : MS} {v p t : Nat} {R R' z : Nat → Int32} (h : CR M0 v R M z) (hp : p < zn z) (ht : t < zn z) (hr : ∀ i, i < zn z → R' i = zmv z (nI (zrow z p)) p t (6 + i)) : CR M0 v R (pr M (v + 2 + 1) R') (zmv z (nI (zrow z p)) p t) := by
  obtain ⟨hz, ⟨⟨a0, a1, a2, a3, a4, a5⟩, ⟨b1, b2⟩, c1, d1, d2⟩, ⟨e1, e2, e3⟩, r⟩ := h
  have hb := hz.2.1
  obtain ⟨z1, z2, z3⟩ := Z0_mv hz hp ht
  have lo : ∀ j, j < 6 → zmv z (nI (zrow z p)) p t j = z j := fun j hj => zmv_else hp ht (Or.inl hj)
  refine ⟨z1, ⟨⟨?_, ?_, ?_, ?_, ?_, ?_⟩, ⟨?_, fun i hi => ?_⟩, fun g hg w' hw' => ?_, d1, d2⟩, ⟨fun c u h => ?_, fun u h => ?_, e3⟩, ?_⟩
  · rw [lo 0 (by decide)]; exact a0
  · rw [lo 1 (by decide)]; exact a1
  · rw [lo 2 (by decide)]; exact a2
  · rw [lo 3 (by decide)]; exact a3
  · rw [lo 4 (by decide)]; exact a4
  · rw [lo 5 (by decide)]; exact a5
  · rw [lo 0 (by decide)]; exact b1
  · rw [z2] at hi
    rw [pr_A]
    exact hr i hi
  · rw [z2] at hg
    rw [mv_o hb hp ht, ← c1 g hg w' hw']
    rcases w_cases w' with h | h | h | h | h
    · rw [cfo_1 h, cfo_1 h, pr_F]
    · rw [cfo_2 h, cfo_2 h, pr_F]
    · rw [cfo_3 h, cfo_3 h, pr_F]
    · rw [cfo_4 h, cfo_4 h, pr_An (by omega)]
    · rw [cfo_5 h, cfo_5 h, pr_F]
  · exact e1 c u h
  · rw [pr_An (by omega)]; exact e2 u h
  · rw [pr_An (by omega)]; exact r
theorem row_iff {M : MS} {v f : Nat} {z : Nat → Int32} (hz : Z0 z) (h : CZ M v z) (hf : f < zn z) : ∀ i, i < zn z → (rA M (v + 2 + 1) i = nI f ↔ i = zpn z f) := by
  intro i hi
  have hb := hz.2.1
  obtain ⟨p1, p2, p3⟩ := zpn_lt hz hf
  rw [h.2.1.2 i hi, (hz.2.2.1 i hi).1, nI_eq (by have := (hz.2.2.1 i hi).2; omega) (by omega)]
  constructor
  · intro e
    exact hz.2.2.2 i _ hi p1 (by rw [p3, e])
  · intro e
    rw [e, p3]
theorem cmv_l {M0 M : MS} {v f c : Nat} {R z : Nat → Int32} (h : CR M0 v R M z) (hf : f < zn z) (hc : c < zn z) (hfc : f ≠ c) :
    (∃ M', F_X2_moveAheadOf M (v + 2) (nI f) (nI c) = some M' ∧ CR M0 v R M' (zmv z (nI f) (zpn z f) (zta z f c))) ∧ ∃ M', F_X2_moveBehind M (v + 2) (nI f) (nI c) = some M' ∧ CR M0 v R M' (zmv z (nI f) (zpn z f) (ztb z f c)) := by
  have hb := h.1.2.1
  obtain ⟨p1, p2, p3⟩ := zpn_lt h.1 hf
  obtain ⟨q1, q2, q3⟩ := zpn_lt h.1 hc
  have hpq : zpn z f ≠ zpn z c := fun e => hfc (by rw [← p3, ← q3, e])
  obtain ⟨g1, g2⟩ := mv_both (M := M) (v := v + 2) (n := zn z) (x := nI f) (y := nI c) hb (by rw [h.2.1.2.1.1]; exact h.1.1) p1 q1 hpq (row_iff h.1 h.2.1 hf) (row_iff h.1 h.2.1 hc)
  have ea : tkq (zpn z f) (zpn z c) = zta z f c := by unfold tkq zta; split <;> split <;> omega
  have eb : tkq (zpn z f) (zpn z c) + 1 = ztb z f c := by unfold tkq ztb; split <;> split <;> omega
  have ta := zta_lt h.1 hf hc
  have tb := ztb_lt h.1 hf hc
  rw [ea] at g1
  rw [eb] at g2
  have k1 := CR_row (R' := mvR (rA M (v + 2 + 1)) (zn z) (zpn z f) (zta z f c) (nI f)) h p1 ta (by rw [p3]; exact mvR_zmv p1 ta h.2.1.2.1.2)
  have k2 := CR_row (R' := mvR (rA M (v + 2 + 1)) (zn z) (zpn z f) (ztb z f c) (nI f)) h p1 tb (by rw [p3]; exact mvR_zmv p1 tb h.2.1.2.1.2)
  rw [p3] at k1 k2
  exact ⟨⟨_, g1, k1⟩, _, g2, k2⟩

