/-! the law's rows hold the row of numbers; tv: whose turn its row t says -/
def aw (j : Nat) : Nat := if j = 0 then 2 else if j = 1 then 5 else if j = 2 then 1 else if j = 3 then 6 else j + 3
def tw (j : Nat) : Nat := if j = 1 then 1 else if j = 5 then 0 else j + 1
def LRt (M : MS) (z : Nat → Int32) (tv : Int32) : Prop :=
  (∀ f, f < zn z → ∀ j, j < 8 → rA M 220 (8 * f + j) = zo z f (aw j)) ∧ (∀ f, f < zn z → ∀ k, k < 4 → rA M 221 (4 * f + k) = zo z f (11 + k)) ∧
  (∀ i, i < zn z → rA M 222 i = z (6 + i)) ∧ rA M 223 0 = tv ∧ (∀ j, 1 ≤ j → j ≤ 5 → rA M 223 j = z (tw j))
def LF (M M1 : MS) : Prop := (∀ c v, rF M1 c v = rF M c v) ∧ (∀ v, v < 220 → rA M1 v = rA M v) ∧ M1.2.2 = M.2.2
theorem LF_refl {M : MS} : LF M M := ⟨fun _ _ => rfl, fun _ _ => rfl, rfl⟩
theorem LF_trans {M M1 M2 : MS} (h1 : LF M M1) (h2 : LF M1 M2) : LF M M2 := ⟨fun c v => (h2.1 c v).trans (h1.1 c v), fun v h => (h2.2.1 v h).trans (h1.2.1 v h), h2.2.2.trans h1.2.2⟩
theorem LF_A {M : MS} {v i : Nat} {x : Int32} (hv : 220 ≤ v) : LF M (wA M v i x) := ⟨fun _ _ => rfl, fun u h => rA_wAn (by omega), rfl⟩
theorem rA_wZ {M : MS} {v u : Nat} : rA (wZ M v) u = if u = v then fun _ => 0 else rA M u := rfl
theorem LF_Z {M : MS} {v : Nat} (hv : 220 ≤ v) : LF M (wZ M v) := ⟨fun _ _ => rfl, fun u h => by rw [rA_wZ, if_neg (by omega)], rfl⟩
theorem CPart_LF {M M1 : MS} (h : LF M M1) : CPart M M1 := ⟨fun c v _ => h.1 c v, fun v hv => h.2.1 v hv, fun i => by unfold rS; rw [h.2.2], by unfold rO; rw [h.2.2]⟩
theorem SJ_LF {M M1 : MS} {z : Nat → Int32} (h : SJ M z) (hl : LF M M1) : SJ M1 z := SJ_keep h (CPart_LF hl)
theorem aw_lt {j : Nat} (h : j < 8) : aw j < 17 := by unfold aw; split <;> (try split) <;> (try split) <;> (try split) <;> omega
theorem aw_inj {i j : Nat} (hi : i < 8) (hj : j < 8) (h : aw i = aw j) : i = j := by
  have e : ∀ i, i < 8 → ∀ j, j < 8 → aw i = aw j → i = j := by decide
  exact e i hi j hj h
theorem aw_11 {i : Nat} (hi : i < 8) : aw i < 11 := by
  have e : ∀ i, i < 8 → aw i < 11 := by decide
  exact e i hi
theorem tw_5 {j : Nat} (h1 : 1 ≤ j) (h5 : j ≤ 5) : tw j ≤ 5 ∧ tw j ≠ 2 := by
  unfold tw
  constructor <;> split <;> (try split) <;> omega
theorem LRt_a {M : MS} {z : Nat → Int32} {tv x : Int32} {f j : Nat} (h : LRt M z tv) (hz : Z0 z) (hf : f < zn z) (hj : j < 8) : LRt (wA M 220 (8 * f + j) x) (zl z f (aw j) x) tv := by
  have hb := hz.2.1
  obtain ⟨h1, h2, h3, h4, h5⟩ := h
  have hn : zn (zl z f (aw j) x) = zn z := zn_zl hz
  refine ⟨fun g hg i hi => ?_, fun g hg k hk => ?_, fun i hi => ?_, ?_, fun i i1 i5 => ?_⟩
  · rw [hn] at hg
    rw [rA_wA, zo_zl (aw_lt hj) (aw_lt hi)]
    by_cases c : g = f ∧ i = j
    · rw [c.1, c.2, upd_s, if_pos ⟨rfl, rfl⟩]
    · rw [upd_n (by omega), if_neg (fun q => c ⟨q.1, aw_inj hi hj q.2⟩), h1 g hg i hi]
  · rw [hn] at hg
    rw [rA_wAn (by decide), zo_zl (aw_lt hj) (by omega), if_neg (fun q => by have := aw_11 hj; omega), h2 g hg k hk]
  · rw [hn] at hi
    rw [rA_wAn (by decide), zl_lo (by omega), h3 i hi]
  · rw [rA_wAn (by decide), h4]
  · have := tw_5 i1 i5
    rw [rA_wAn (by decide), zl_lo (by omega), h5 i i1 i5]
theorem LRt_c {M : MS} {z : Nat → Int32} {tv x : Int32} {f j : Nat} (h : LRt M z tv) (hz : Z0 z) (hf : f < zn z) (hj : j < 4) : LRt (wA M 221 (4 * f + j) x) (zl z f (11 + j) x) tv := by
  have hb := hz.2.1
  obtain ⟨h1, h2, h3, h4, h5⟩ := h
  have hn : zn (zl z f (11 + j) x) = zn z := zn_zl hz
  refine ⟨fun g hg i hi => ?_, fun g hg k hk => ?_, fun i hi => ?_, ?_, fun i i1 i5 => ?_⟩
  · rw [hn] at hg
    rw [rA_wAn (by decide), zo_zl (by omega) (aw_lt hi), if_neg (fun q => by have := aw_11 hi; omega), h1 g hg i hi]
  · rw [hn] at hg
    rw [rA_wA, zo_zl (by omega) (by omega)]
    by_cases c : g = f ∧ k = j
    · rw [c.1, c.2, upd_s, if_pos ⟨rfl, rfl⟩]
    · rw [upd_n (by omega), if_neg (by omega), h2 g hg k hk]
  · rw [hn] at hi
    rw [rA_wAn (by decide), zl_lo (by omega), h3 i hi]
  · rw [rA_wAn (by decide), h4]
  · have := tw_5 i1 i5
    rw [rA_wAn (by decide), zl_lo (by omega), h5 i i1 i5]
theorem LRt_t {M : MS} {z : Nat → Int32} {tv x : Int32} {g : Nat} (h : LRt M z tv) (hz : Z0 z) (h1' : 1 ≤ g) (h4' : g ≤ 4) : LRt (wA M 223 g x) (upd z (tw g) x) tv := by
  have hb := hz.2.1
  have ht := tw_5 h1' (by omega)
  have ht1 : 1 ≤ tw g := by unfold tw; split <;> (try split) <;> omega
  obtain ⟨h1, h2, h3, h4, h5⟩ := h
  have hn : zn (upd z (tw g) x) = zn z := zn_up hz ht1 ht.1
  refine ⟨fun f hf i hi => ?_, fun f hf k hk => ?_, fun i hi => ?_, ?_, fun i i1 i5 => ?_⟩
  · rw [hn] at hf
    rw [rA_wAn (by decide), zo_lo (by omega), h1 f hf i hi]
  · rw [hn] at hf
    rw [rA_wAn (by decide), zo_lo (by omega), h2 f hf k hk]
  · rw [hn] at hi
    rw [rA_wAn (by decide), upd_n (by omega), h3 i hi]
  · rw [rA_wA, upd_n (by omega), h4]
  · rw [rA_wA]
    by_cases c : i = g
    · rw [c, upd_s, upd_s]
    · rw [upd_n c, upd_n (by unfold tw; split <;> split <;> (try split) <;> (try split) <;> omega), h5 i i1 i5]
theorem LRt_0 {M : MS} {z : Nat → Int32} {tv x : Int32} (h : LRt M z tv) : LRt (wA M 223 0 x) z x := by
  obtain ⟨h1, h2, h3, h4, h5⟩ := h
  exact ⟨fun f hf i hi => by rw [rA_wAn (by decide)]; exact h1 f hf i hi, fun f hf k hk => by rw [rA_wAn (by decide)]; exact h2 f hf k hk, fun i hi => by rw [rA_wAn (by decide)]; exact h3 i hi, by rw [rA_wA, upd_s], fun i i1 i5 => by rw [rA_wA, upd_n (by omega)]; exact h5 i i1 i5⟩
theorem LRt_6 {M : MS} {z : Nat → Int32} {tv x : Int32} (h : LRt M z tv) : LRt (wA M 223 6 x) z tv := by
  obtain ⟨h1, h2, h3, h4, h5⟩ := h
  exact ⟨fun f hf i hi => by rw [rA_wAn (by decide)]; exact h1 f hf i hi, fun f hf k hk => by rw [rA_wAn (by decide)]; exact h2 f hf k hk, fun i hi => by rw [rA_wAn (by decide)]; exact h3 i hi, by rw [rA_wA, upd_n (by decide)]; exact h4, fun i i1 i5 => by rw [rA_wA, upd_n (by omega)]; exact h5 i i1 i5⟩
/-- rows 220 to 223 the same: the picture is the same -/
theorem LRt_M {M M1 : MS} {z : Nat → Int32} {tv : Int32} (h : LRt M z tv) (h1 : ∀ v, 220 ≤ v → v ≤ 223 → rA M1 v = rA M v) : LRt M1 z tv := by
  obtain ⟨a, b, c, d, e⟩ := h
  exact ⟨fun f hf i hi => by rw [h1 220 (by decide) (by decide)]; exact a f hf i hi, fun f hf k hk => by rw [h1 221 (by decide) (by decide)]; exact b f hf k hk, fun i hi => by rw [h1 222 (by decide) (by decide)]; exact c i hi, by rw [h1 223 (by decide) (by decide)]; exact d, fun i i1 i5 => by rw [h1 223 (by decide) (by decide)]; exact e i i1 i5⟩
theorem LRt_x {M : MS} {z : Nat → Int32} {tv x : Int32} {v i : Nat} (h : LRt M z tv) (hv : 224 ≤ v) : LRt (wA M v i x) z tv := LRt_M h (fun u _ hu => rA_wAn (by omega))
theorem LRt_Z {M : MS} {z : Nat → Int32} {tv : Int32} {v : Nat} (h : LRt M z tv) (hv : 224 ≤ v) : LRt (wZ M v) z tv := LRt_M h (fun u _ hu => by rw [rA_wZ, if_neg (by omega)])
theorem LRt_MP {M M1 : MS} {z : Nat → Int32} {tv : Int32} (h : LRt M z tv) (hp : MPart M M1) : LRt M1 z tv := LRt_M h (fun u hu _ => hp.2.1 u hu)
/-- what the law doesn't see of the row of numbers -/
theorem LRt_z {M : MS} {z z' : Nat → Int32} {tv : Int32} (h : LRt M z tv) (hn : zn z' = zn z) (ho : ∀ f, f < zn z → ∀ w, 1 ≤ w → w < 15 → w ≠ 3 → w ≠ 4 → zo z' f w = zo z f w) (hl : ∀ i, i < 6 + zn z → i ≠ 2 → z' i = z i) : LRt M z' tv := by
  obtain ⟨a, b, c, d, e⟩ := h
  have hq : ∀ i, i < 8 → 1 ≤ aw i ∧ aw i < 15 ∧ aw i ≠ 3 ∧ aw i ≠ 4 := by decide
  refine ⟨fun f hf i hi => ?_, fun f hf k hk => ?_, fun i hi => ?_, d, fun i i1 i5 => ?_⟩
  · rw [hn] at hf
    obtain ⟨q1, q2, q3, q4⟩ := hq i hi
    rw [ho f hf _ q1 q2 q3 q4]; exact a f hf i hi
  · rw [hn] at hf
    rw [ho f hf _ (by omega) (by omega) (by omega) (by omega)]; exact b f hf k hk
  · rw [hn] at hi
    rw [hl _ (by omega) (by omega)]; exact c i hi
  · have := tw_5 i1 i5
    rw [hl _ (by omega) this.2]; exact e i i1 i5
theorem LRt_2 {M : MS} {z : Nat → Int32} {tv x : Int32} (h : LRt M z tv) (hz : Z0 z) : LRt M (upd z 2 x) tv := LRt_z h (zn_up hz (by decide) (by decide)) (fun f hf w _ _ _ _ => zo_lo (by decide)) (fun i _ h2 => upd_n h2)
/-- places in the rows -/
theorem ix8 {f : Nat} : (8 : Int32) * nI f = nI (8 * f) := by rw [nI_lit 8, pk_mul]
theorem ix8n {f j : Nat} : (8 : Int32) * nI f + nI j = nI (8 * f + j) := by rw [ix8, nI_add]
theorem ix81 {f : Nat} : (8 : Int32) * nI f + (1 : Int32) = nI (8 * f + 1) := ix8n (j := 1)
theorem ix82 {f : Nat} : (8 : Int32) * nI f + (2 : Int32) = nI (8 * f + 2) := ix8n (j := 2)
theorem ix83 {f : Nat} : (8 : Int32) * nI f + (3 : Int32) = nI (8 * f + 3) := ix8n (j := 3)
theorem ix84 {f : Nat} : (8 : Int32) * nI f + (4 : Int32) = nI (8 * f + 4) := ix8n (j := 4)
theorem ix85 {f : Nat} : (8 : Int32) * nI f + (5 : Int32) = nI (8 * f + 5) := ix8n (j := 5)
theorem ix86 {f : Nat} : (8 : Int32) * nI f + (6 : Int32) = nI (8 * f + 6) := ix8n (j := 6)
theorem ix87 {f : Nat} : (8 : Int32) * nI f + (7 : Int32) = nI (8 * f + 7) := ix8n (j := 7)
theorem ix4 {f : Nat} : (4 : Int32) * nI f = nI (4 * f) := by rw [nI_lit 4, pk_mul]
theorem ix4n {f j : Nat} : (4 : Int32) * nI f + nI j = nI (4 * f + j) := by rw [ix4, nI_add]
theorem ix41 {f : Nat} : (4 : Int32) * nI f + (1 : Int32) = nI (4 * f + 1) := ix4n (j := 1)
theorem ix42 {f : Nat} : (4 : Int32) * nI f + (2 : Int32) = nI (4 * f + 2) := ix4n (j := 2)
theorem ix43 {f : Nat} : (4 : Int32) * nI f + (3 : Int32) = nI (4 * f + 3) := ix4n (j := 3)
theorem ix44 {f : Nat} : (4 : Int32) * nI f + (4 : Int32) = nI (4 * f + 4) := ix4n (j := 4)
theorem g7 {α : Type} {k : Option α} {n : Nat} (h : n < 7) : gdb (inb (nI n) 7) k = k := gdb_t (inb_nI h (by decide))
theorem g70 {α : Type} {k : Option α} : gdb (inb (0 : Int32) 7) k = k := g7 (n := 0) (by decide)
theorem g71 {α : Type} {k : Option α} : gdb (inb (1 : Int32) 7) k = k := g7 (n := 1) (by decide)
theorem g72 {α : Type} {k : Option α} : gdb (inb (2 : Int32) 7) k = k := g7 (n := 2) (by decide)
theorem g73 {α : Type} {k : Option α} : gdb (inb (3 : Int32) 7) k = k := g7 (n := 3) (by decide)
theorem g74 {α : Type} {k : Option α} : gdb (inb (4 : Int32) 7) k = k := g7 (n := 4) (by decide)
theorem g75 {α : Type} {k : Option α} : gdb (inb (5 : Int32) 7) k = k := g7 (n := 5) (by decide)
theorem g76 {α : Type} {k : Option α} : gdb (inb (6 : Int32) 7) k = k := g7 (n := 6) (by decide)
theorem tn6 : Int32.toNatClampNeg 6 = 6 := by decide
/-- lives -/
theorem lives_ok {M : MS} {z : Nat → Int32} {tv : Int32} {f : Nat} (h : LRt M z tv) (hz : ZW z) (h6 : zn z ≤ 6) (hf : f < zn z) : F_L_lives M (nI f) = some (if zo z f 2 = 0 then 0 else 1) := by
  obtain ⟨l, hl, e⟩ := (hz.2.1 f hf).2.1
  have hr : rA M 220 (8 * f) = zo z f 2 := h.1 f hf 0 (by decide)
  rw [F_L_lives, ix8, gdb_t (inb_nI (by omega) (by decide)), nI_clamp (by omega), hr, e]
  by_cases c : l = 0
  · rw [c, if_pos (by decide), if_pos (by decide)]
  · rw [if_neg (nI_nle (by omega) (by omega)), if_neg (nI_ne0 (by omega) (by omega))]
/-- forget -/
theorem forget_ok {M : MS} {z : Nat → Int32} {tv : Int32} {f : Nat} (h : LRt M z tv) (hz : Z0 z) (h6 : zn z ≤ 6) (hf : f < zn z) : ∃ M', F_L_forget M (nI f) = some M' ∧ LRt M' (zlose z f) tv ∧ LF M M' ∧ (∀ v, v ≠ 220 → rA M' v = rA M v) := by
  have n1 : zn (zl z f 7 (-1)) = zn z := zn_zl hz
  have n2 : zn (zl (zl z f 7 (-1)) f 8 (-1)) = zn z := (zn_zl (Z0_zl hz).1).trans n1
  have n3 : zn (zl (zl (zl z f 7 (-1)) f 8 (-1)) f 9 (-1)) = zn z := (zn_zl (Z0_zl (Z0_zl hz).1).1).trans n2
  have a1 : LRt (wA M 220 (8 * f + 4) (-1)) (zl z f 7 (-1)) tv := LRt_a (f := f) (j := 4) (x := -1) h hz hf (by decide)
  have a2 : LRt (wA (wA M 220 (8 * f + 4) (-1)) 220 (8 * f + 5) (-1)) (zl (zl z f 7 (-1)) f 8 (-1)) tv := LRt_a (f := f) (j := 5) (x := -1) a1 (Z0_zl hz).1 (by rw [n1]; exact hf) (by decide)
  have a3 : LRt (wA (wA (wA M 220 (8 * f + 4) (-1)) 220 (8 * f + 5) (-1)) 220 (8 * f + 6) (-1)) (zl (zl (zl z f 7 (-1)) f 8 (-1)) f 9 (-1)) tv := LRt_a (f := f) (j := 6) (x := -1) a2 (Z0_zl (Z0_zl hz).1).1 (by rw [n2]; exact hf) (by decide)
  have a4 : LRt (wA (wA (wA (wA M 220 (8 * f + 4) (-1)) 220 (8 * f + 5) (-1)) 220 (8 * f + 6) (-1)) 220 (8 * f + 7) (-1)) (zlose z f) tv := LRt_a (f := f) (j := 7) (x := -1) a3 (Z0_zl (Z0_zl (Z0_zl hz).1).1).1 (by rw [n3]; exact hf) (by decide)
  refine ⟨_, ?_, a4, LF_trans (LF_trans (LF_trans (LF_A (by decide)) (LF_A (by decide))) (LF_A (by decide))) (LF_A (by decide)), fun v hv => by rw [rA_wAn hv, rA_wAn hv, rA_wAn hv, rA_wAn hv]⟩
  rw [F_L_forget, FU_s, F_L_forget_l2, if_neg (by decide), ix84, gdb_t (inb_nI (by omega) (by decide)), nI_clamp (by omega), nm_k, nm_k, show (4 : Int32) + 1 = 5 by decide]
  rw [F_L_forget_l2, if_neg (by decide), ix85, gdb_t (inb_nI (by omega) (by decide)), nI_clamp (by omega), nm_k, nm_k, show (5 : Int32) + 1 = 6 by decide]
  rw [F_L_forget_l2, if_neg (by decide), ix86, gdb_t (inb_nI (by omega) (by decide)), nI_clamp (by omega), nm_k, nm_k, show (6 : Int32) + 1 = 7 by decide]
  rw [F_L_forget_l2, if_neg (by decide), ix87, gdb_t (inb_nI (by omega) (by decide)), nI_clamp (by omega), nm_k, nm_k, show (7 : Int32) + 1 = 8 by decide]
  rw [F_L_forget_l2, if_pos (by decide)]
/-- fade -/
theorem fade_l {z : Nat → Int32} {tv : Int32} {f : Nat} (hz : ZW z) (h6 : zn z ≤ 6) (hf : f < zn z) : ∀ d c k (M : MS), c + d = 4 → d < k → LRt M (zpass z f c) tv → ∃ M', F_L_fade_l4 (nI f) k (nI (4 * f + c)) M = some M' ∧ LRt M' (zpass z f 4) tv ∧ LF M M' ∧ (∀ v, v ≠ 221 → rA M' v = rA M v) := by
  intro d
  induction d with
  | zero =>
    intro c k M hc hk h
    obtain ⟨k, rfl⟩ : ∃ q, k = q + 1 := ⟨k - 1, by omega⟩
    have : c = 4 := by omega
    subst this
    rw [F_L_fade_l4, ix44, if_pos (nI_le (by omega) (by omega))]
    exact ⟨M, rfl, h, LF_refl, fun _ _ => rfl⟩
  | succ d ih =>
    intro c k M hc hk h
    obtain ⟨k, rfl⟩ : ∃ q, k = q + 1 := ⟨k - 1, by omega⟩
    have hn : zn (zpass z f c) = zn z := (Z0_pass hz.1).2.1
    have hx : rA M 221 (4 * f + c) = zo z f (11 + c) := by
      rw [h.2.1 f (by rw [hn]; exact hf) c (by omega), zpass_o (by omega) c (by omega), if_neg (by omega)]
    obtain ⟨l, hl, e⟩ := (hz.2.1 f hf).2.2.2.2.2.2.2 c (by omega)
    have hv : ∀ s : Int32, s = (if zo z f (11 + c) ≤ 0 then 0 else 1) → zo z f (11 + c) - s = if 0 < zo z f (11 + c) then zo z f (11 + c) - 1 else 0 := by
      intro s hs
      rw [hs, e]
      by_cases c0 : l = 0
      · rw [c0]; decide
      · rw [if_neg (nI_nle (by omega) (by omega)), if_pos (show (0 : Int32) < nI l from nI_lt (a := 0) (by omega) (by omega))]
    have hn2 := LRt_c (j := c) (x := if 0 < zo z f (11 + c) then zo z f (11 + c) - 1 else 0) h (Z0_pass hz.1).1 (by rw [hn]; exact hf) (by omega)
    obtain ⟨M', g1, g2, g3, g4⟩ := ih (c + 1) k _ (by omega) (by omega) hn2
    refine ⟨M', ?_, g2, LF_trans (LF_A (by decide)) g3, fun v hv => by rw [g4 v hv, rA_wAn hv]⟩
    rw [F_L_fade_l4, ix44, if_neg (nI_ge (by omega) (by omega)), gdb_t (inb_nI (by omega) (by decide)), gdb_t (inb_nI (by omega) (by decide)), nI_clamp (by omega), nm_k, hx]
    by_cases c0 : zo z f (11 + c) ≤ 0
    · rw [if_pos c0]
      try dsimp only
      rw [gdb_t (inb_nI (by omega) (by decide)), nm_k, nm_k, nI_1, hv 0 (by rw [if_pos c0])]
      exact g1
    · rw [if_neg c0]
      try dsimp only
      rw [gdb_t (inb_nI (by omega) (by decide)), nm_k, nm_k, nI_1, hv 1 (by rw [if_neg c0])]
      exact g1
theorem fade_ok {M : MS} {z : Nat → Int32} {tv : Int32} {f : Nat} (h : LRt M z tv) (hz : ZW z) (h6 : zn z ≤ 6) (hf : f < zn z) : ∃ M', F_L_fade M (nI f) = some M' ∧ LRt M' (zpass z f 4) tv ∧ LF M M' ∧ (∀ v, v ≠ 221 → rA M' v = rA M v) := by
  obtain ⟨M', g⟩ := fade_l hz h6 hf 4 0 FU M (by omega) (by rw [FU_s]; omega) h
  rw [F_L_fade, ix4, nm_k]
  exact ⟨M', g⟩
/-- rank -/
theorem rank_ok {M : MS} {z : Nat → Int32} {tv : Int32} {f : Nat} (h : LRt M z tv) (hz : Z0 z) (h6 : zn z ≤ 6) (hf : f < zn z) : F_L_rank M (nI f) = some (nI (zpn z f)) := by
  obtain ⟨p1, p2, p3⟩ := zpn_lt hz hf
  have key : ∀ d i k, i + d = zpn z f → d < k → F_L_rank_l2 (nI f) M k (nI i) = some (nI (zpn z f)) := by
    intro d
    induction d with
    | zero =>
      intro i k hi hk
      obtain ⟨k, rfl⟩ : ∃ q, k = q + 1 := ⟨k - 1, by omega⟩
      have e : i = zpn z f := by omega
      subst e
      rw [F_L_rank_l2, gdb_t (inb_nI (by omega) (by decide)), nI_clamp (by omega), h.2.2.1 _ p1, (hz.2.2.1 _ p1).1, p3, if_pos rfl]
    | succ d ih =>
      intro i k hi hk
      obtain ⟨k, rfl⟩ : ∃ q, k = q + 1 := ⟨k - 1, by omega⟩
      have hin : i < zn z := by omega
      have hne : ¬ nI (zrow z i) = nI f := fun q => by
        have e := (nI_eq (by have := (hz.2.2.1 i hin).2; omega) (by omega)).mp q
        have := hz.2.2.2 i (zpn z f) hin p1 (e.trans p3.symm)
        omega
      rw [F_L_rank_l2, gdb_t (inb_nI (by omega) (by decide)), nI_clamp (by omega), h.2.2.1 _ hin, (hz.2.2.1 _ hin).1, if_neg hne, nm_k, nI_1]
      exact ih (i + 1) k (by omega) (by omega)
  rw [F_L_rank]
  exact key (zpn z f) 0 FU (by omega) (by rw [FU_s]; omega)
