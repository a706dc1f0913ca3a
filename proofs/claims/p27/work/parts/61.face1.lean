/-! the calls that act -/
theorem kact {z : Nat → Int32} {kd x a3 a4 : Int32} {c r : Nat} (hz : ZW z) (ht : TH z) (hx : xok z kd x) (hk : k4 kd) (hc : c < 4) (hr : r ≤ 5) (h3 : kd = 3 → a3 = nI c ∧ a4 = nI r) (hp : zcx z kd x = true) (M1 : MS) (R : Nat → Int32) (h : CR M1 0 R M1 z) : ∃ M2 R', (bd2 (F_X3_act M1 0 kd x a3 a4) fun r13 M12 => (some ((0 : Nat), r13, M12))) = some (0, zdR z kd x c r, M2) ∧ CR M1 0 R' M2 (zdA z kd x c r) := by
  obtain ⟨M2, R', k1, k2⟩ := cdx_l (c := c) (r := r) h hz ht hx hk hc hr h3 hp
  exact ⟨M2, R', by rw [k1, bd2_s], k2⟩
theorem PI_act {z : Nat → Int32} {m t : Nat} {sv : Nat → Nat → Int32} {kd x : Int32} {c r : Nat} (h : PI z m sv t) (hx : xok z kd x) (hc : c < 4) (hr : r ≤ 5) (hp : zcx z kd x = true) : PI (zdA z kd x c r) (svM m) (svS sv m z) t := by
  obtain ⟨a, b, _⟩ := zdA_ok (c := c) (r := r) h.1 h.2.1 hx hc hr hp
  exact PI_new h a b
theorem cz_t {M M1 : MS} {z : Nat → Int32} {R : Nat → Int32} (h : CR M1 0 R M z) : rF M 54 0 = z 2 := h.2.1.1.2.2.1
/-! come -/
def gcome (a0 a1 a2 a3 : Int32) : Bool := wi a0 0 1 && (wi a1 0 40 && (wi a2 1 99 && wi a3 1 20))
theorem ch_c {M : MS} {β : Type} {a0 a1 a2 a3 : Int32} {J : Int32 → Option β} : (bd (F_X4_isWithin M a0 (0 : Int32) (1 : Int32)) fun r2 => (nm J fun j45_3 => (if r2 = 0 then (j45_3 (0 : Int32)) else (bd (F_X4_isWithin M a1 (0 : Int32) (40 : Int32)) fun r21 => (if r21 = 0 then (j45_3 (0 : Int32)) else (bd (F_X4_isWithin M a2 (1 : Int32) (99 : Int32)) fun r24 => (if r24 = 0 then (j45_3 (0 : Int32)) else (bd (F_X4_isWithin M a3 (1 : Int32) (20 : Int32)) fun r27 => (if r27 = 0 then (j45_3 (0 : Int32)) else (j45_3 (1 : Int32))))))))))) = J (if gcome a0 a1 a2 a3 = true then 1 else 0) := by
  unfold gcome
  by_cases h0 : wi a0 0 1 = true
  · rw [isW_t h0, bd_s, nm_k, if_neg (by decide)]
    by_cases h1 : wi a1 0 40 = true
    · rw [isW_t h1, bd_s, if_neg (by decide)]
      by_cases h2 : wi a2 1 99 = true
      · rw [isW_t h2, bd_s, if_neg (by decide)]
        by_cases h3 : wi a3 1 20 = true
        · rw [isW_t h3, bd_s, if_neg (by decide), h0, h1, h2, h3]; rfl
        · rw [isW_f h3, bd_s, if_pos rfl, if_neg (by simp [h3])]
      · rw [isW_f h2, bd_s, if_pos rfl, if_neg (by simp [h2])]
    · rw [isW_f h1, bd_s, if_pos rfl, if_neg (by simp [h1])]
  · rw [isW_f h0, bd_s, nm_k, if_pos rfl, if_neg (by simp [h0])]
