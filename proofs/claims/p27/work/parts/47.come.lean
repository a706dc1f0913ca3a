/-! who enters: both sides -/
def lk (w : Nat) : Int32 → List (Nat × Int32) → Int32
  | d, [] => d
  | d, (u, x) :: l => lk w (if w = u then x else d) l
def cws (v f : Nat) : MS → List (Nat × Int32) → MS
  | M, [] => M
  | M, (w, x) :: l => cws v f (cw M v f w x) l
def zls (f : Nat) : (Nat → Int32) → List (Nat × Int32) → (Nat → Int32)
  | z, [] => z
  | z, (w, x) :: l => zls f (zl z f w x) l
theorem cfo_cws {v f g w : Nat} (hf : f < 10) (hg : g < 10) (hw : w < 17) : ∀ (l : List (Nat × Int32)) (M : MS), (∀ p, p ∈ l → p.1 < 17) → cfo (cws v f M l) v g w = if g = f then lk w (cfo M v f w) l else cfo M v g w
  | [], M, _ => by
    rw [cws, lk]
    by_cases e : g = f
    · rw [if_pos e, e]
    · rw [if_neg e]
  | (u, x) :: l, M, h => by
    have hu : u < 17 := h (u, x) (List.mem_cons_self ..)
    rw [cws, cfo_cws hf hg hw l _ (fun p hp => h p (List.mem_cons_of_mem _ hp)), lk, cfo_cw hf hf hu hw, cfo_cw hf hg hu hw]
    by_cases e : g = f
    · rw [if_pos e, if_pos e]
      by_cases e2 : w = u
      · rw [if_pos ⟨rfl, e2⟩, if_pos e2]
      · rw [if_neg (fun q => e2 q.2), if_neg e2]
    · rw [if_neg e, if_neg e, if_neg (fun q => e q.1)]
theorem zo_zls {f g w : Nat} (hw : w < 17) : ∀ (l : List (Nat × Int32)) (z : Nat → Int32), (∀ p, p ∈ l → p.1 < 17) → zo (zls f z l) g w = if g = f then lk w (zo z f w) l else zo z g w
  | [], z, _ => by
    rw [zls, lk]
    by_cases e : g = f
    · rw [if_pos e, e]
    · rw [if_neg e]
  | (u, x) :: l, z, h => by
    have hu : u < 17 := h (u, x) (List.mem_cons_self ..)
    rw [zls, zo_zls hw l _ (fun p hp => h p (List.mem_cons_of_mem _ hp)), lk, zo_zl hu hw, zo_zl hu hw]
    by_cases e : g = f
    · rw [if_pos e, if_pos e]
      by_cases e2 : w = u
      · rw [if_pos ⟨rfl, e2⟩, if_pos e2]
      · rw [if_neg (fun q => e2 q.2), if_neg e2]
    · rw [if_neg e, if_neg e, if_neg (fun q => e q.1)]
theorem zls_lo {f i : Nat} (hi : i < 16) : ∀ (l : List (Nat × Int32)) (z : Nat → Int32), zls f z l i = z i
  | [], _ => rfl
  | (u, x) :: l, z => by rw [zls, zls_lo hi l, zl_lo hi]
theorem zls_hi {f j : Nat} (hf : f < 10) (hj : 186 ≤ j) : ∀ (l : List (Nat × Int32)) (z : Nat → Int32), (∀ p, p ∈ l → p.1 < 17) → zls f z l j = z j
  | [], _, _ => rfl
  | (u, x) :: l, z, h => by
    have hu : u < 17 := h (u, x) (List.mem_cons_self ..)
    rw [zls, zls_hi hf hj l _ (fun p hp => h p (List.mem_cons_of_mem _ hp)), hi_zl hf hu hj]
theorem cws_F {v f c u : Nat} (hf : f < 10) (hu : u < v + 5 ∨ v + 15 ≤ u) : ∀ (l : List (Nat × Int32)) (M : MS), rF (cws v f M l) c u = rF M c u
  | [], _ => rfl
  | (w, x) :: l, M => by rw [cws, cws_F hf hu l, cw_F hf hu]
theorem cws_A {v f u : Nat} (hf : f < 10) (hu : u < v + 16 ∨ v + 26 ≤ u) : ∀ (l : List (Nat × Int32)) (M : MS), rA (cws v f M l) u = rA M u
  | [], _ => rfl
  | (w, x) :: l, M => by rw [cws, cws_A hf hu l, cw_A hf hu]
theorem cws_R {v f : Nat} : ∀ (l : List (Nat × Int32)) (M : MS), (cws v f M l).2.2 = M.2.2
  | [], _ => rfl
  | (w, x) :: l, M => by rw [cws, cws_R l, cw_R]
def clst (s i l fo : Int32) : List (Nat × Int32) := [(0, s), (1, i), (2, l), (3, l), (4, fo), (5, if s = 0 then 0 else 9), (11, 0), (12, 0), (13, 0), (14, 0), (6, 0), (7, -1), (8, -1), (9, -1), (10, -1), (15, 0), (16, 0)]
def mlst (s i l fo : Int32) : List (Nat × Int32) := [(0, s), (1, i), (2, l), (3, l), (4, fo), (5, if s = 0 then 0 else 9), (7, -1), (8, -1), (9, -1), (10, -1)]
theorem clst_w {s i l fo : Int32} : ∀ p, p ∈ clst s i l fo → p.1 < 17 := by
  intro p hp
  simp only [clst, List.mem_cons, List.not_mem_nil, or_false] at hp
  rcases hp with rfl | rfl | rfl | rfl | rfl | rfl | rfl | rfl | rfl | rfl | rfl | rfl | rfl | rfl | rfl | rfl | rfl <;> dsimp only <;> omega
theorem mlst_w {s i l fo : Int32} : ∀ p, p ∈ mlst s i l fo → p.1 < 17 := by
  intro p hp
  simp only [mlst, List.mem_cons, List.not_mem_nil, or_false] at hp
  rcases hp with rfl | rfl | rfl | rfl | rfl | rfl | rfl | rfl | rfl | rfl <;> dsimp only <;> omega
theorem lst_same {s i l fo d : Int32} {w : Nat} (hw : w < 17) : lk w d (clst s i l fo) = lk w 0 (mlst s i l fo) := by
  rcases (show w = 0 ∨ w = 1 ∨ w = 2 ∨ w = 3 ∨ w = 4 ∨ w = 5 ∨ w = 6 ∨ w = 7 ∨ w = 8 ∨ w = 9 ∨ w = 10 ∨ w = 11 ∨ w = 12 ∨ w = 13 ∨ w = 14 ∨ w = 15 ∨ w = 16 by omega) with rfl | rfl | rfl | rfl | rfl | rfl | rfl | rfl | rfl | rfl | rfl | rfl | rfl | rfl | rfl | rfl | rfl <;> rfl
/-- the class makes a fighter anew -/
theorem reset_l {M : MS} {v f : Nat} {s i l fo : Int32} : F_X0_reset M (v + 1 + 4 + f) s i l fo = some (cws v f M (clst s i l fo)) := by
  have t0 : Int32.toNatClampNeg 0 = 0 := tn0
  have t1 : Int32.toNatClampNeg (0 + 1) = 1 := by decide
  have t2 : Int32.toNatClampNeg (0 + 1 + 1) = 2 := by decide
  have t3 : Int32.toNatClampNeg (0 + 1 + 1 + 1) = 3 := by decide
  have lp : ∀ (M : MS) (k : Nat), F_X0_reset_l43 (v + 1 + 4 + f) (k + 5) 0 M = some (cws v f M [(11, 0), (12, 0), (13, 0), (14, 0), (6, 0), (7, -1), (8, -1), (9, -1), (10, -1), (15, 0), (16, 0)]) := by
    intro M k
    rw [F_X0_reset_l43, if_neg (by decide), gdb_t (by decide), nm_k, nm_k, F_X0_reset_l43, if_neg (by decide), gdb_t (by decide), nm_k, nm_k, F_X0_reset_l43, if_neg (by decide), gdb_t (by decide), nm_k, nm_k, F_X0_reset_l43, if_neg (by decide), gdb_t (by decide), nm_k, nm_k, F_X0_reset_l43, if_pos (by decide), t0, t1, t2, t3]
    rfl
  rw [F_X0_reset, nm_k, nm_k, nm_k, nm_k, nm_k, nm_k]
  have e : FU = 5995 + 5 := rfl
  by_cases h : s = 0
  · rw [if_neg (fun q => q h)]
    dsimp only
    rw [nm_k, e, lp]
    unfold clst
    rw [if_pos h]
    rfl
  · rw [if_pos h]
    dsimp only
    rw [nm_k, e, lp]
    unfold clst
    rw [if_neg h]
    rfl
/-- the first place with a lower one -/
def fin (a : Nat → Int32) (x : Int32) : Nat → Nat → Nat
  | 0, p => p
  | d + 1, p => if a p < x then p else fin a x d (p + 1)
theorem fin_ok {a : Nat → Int32} {x : Int32} : ∀ d p, p ≤ fin a x d p ∧ fin a x d p ≤ p + d ∧ (∀ i, p ≤ i → i < fin a x d p → ¬ a i < x) ∧ (fin a x d p < p + d → a (fin a x d p) < x)
  | 0, p => ⟨Nat.le_refl _, Nat.le_refl _, fun i h1 h2 => by rw [fin] at h2; omega, fun h => by rw [fin] at h; omega⟩
  | d + 1, p => by
    rw [fin]
    by_cases c : a p < x
    · rw [if_pos c]
      exact ⟨Nat.le_refl _, by omega, fun i h1 h2 => by omega, fun _ => c⟩
    · rw [if_neg c]
      obtain ⟨h1, h2, h3, h4⟩ := fin_ok (a := a) (x := x) d (p + 1)
      refine ⟨by omega, by omega, fun i g1 g2 => ?_, fun g => h4 (by omega)⟩
      by_cases e : i = p
      · rw [e]; exact c
      · exact h3 i (by omega) g2
theorem fin_same {a b : Nat → Int32} {x : Int32} : ∀ d p, (∀ i, p ≤ i → i < p + d → a i = b i) → fin a x d p = fin b x d p
  | 0, _, _ => rfl
  | d + 1, p, h => by rw [fin, fin, h p (by omega) (by omega), fin_same d (p + 1) (fun i h1 h2 => h i (by omega) (by omega))]
/-- the class's search in its row, and what it puts there -/
theorem atN {M : MS} {v f N : Nat} (hN : rF M 52 v = nI N) (h10 : N ≤ 10) (hf : f < N) : F_X3_at M v (nI f) = some (v + 1 + 4 + f) := by
  rw [F_X3_at, if_neg (nI_pos (by omega)), hN, if_neg (nI_ge (by omega) (by omega)), if_neg (show ¬ (10 : Int32) ≤ nI f from nI_ge (b := 10) (by omega) (by decide)), gdb_t (inb_nI (by omega) (by omega)), nI_clamp (by omega)]
theorem lineUp_l {M : MS} {v f N m : Nat} {ρ : Nat → Nat} (hN : rF M 52 v = nI N) (h10 : N ≤ 10) (hf : f < N) (hm : rF M 33 (v + 2) = nI m) (hm10 : m < 10) (hr : ∀ i, i < m → rA M (v + 2 + 1) i = nI (ρ i) ∧ ρ i < N) : ∀ d p k, p + d = m → d < k → F_X3_lineUp_l11 v (nI f) M (rF M 1 (v + 1 + 4 + f)) k (nI p) = some (wF (pr M (v + 2 + 1) (upd (ins (rA M (v + 2 + 1)) m (fin (fun i => rF M 1 (v + 1 + 4 + ρ i)) (rF M 1 (v + 1 + 4 + f)) d p)) (fin (fun i => rF M 1 (v + 1 + 4 + ρ i)) (rF M 1 (v + 1 + 4 + f)) d p) (nI f))) 33 (v + 2) (nI (m + 1))) := by
  intro d
  induction d with
  | zero =>
    intro p k hp hk
    obtain ⟨k, rfl⟩ : ∃ q, k = q + 1 := ⟨k - 1, by omega⟩
    rw [F_X3_lineUp_l11, nm_k, hm, if_pos (nI_le (by omega) (by omega)), ins_eq hm10 hm (by omega), bd_s, fin]
  | succ d ih =>
    intro p k hp hk
    obtain ⟨k, rfl⟩ : ∃ q, k = q + 1 := ⟨k - 1, by omega⟩
    obtain ⟨r1, r2⟩ := hr p (by omega)
    rw [F_X3_lineUp_l11, nm_k, hm, if_neg (nI_ge (by omega) (by omega)), nat_r (by omega) hm (by omega), bd_s, r1, atN hN h10 r2, bd_s, fin]
    by_cases c : rF M 1 (v + 1 + 4 + ρ p) < rF M 1 (v + 1 + 4 + f)
    · rw [if_pos c, if_pos c, ins_eq hm10 hm (by omega), bd_s]
    · rw [if_neg c, if_neg c, nm_k, nI_1]
      exact ih (p + 1) k (by omega) (by omega)
theorem lineUp_eq {M : MS} {v f N m : Nat} {ρ : Nat → Nat} (hN : rF M 52 v = nI N) (h10 : N ≤ 10) (hf : f < N) (hm : rF M 33 (v + 2) = nI m) (hm10 : m < 10) (hr : ∀ i, i < m → rA M (v + 2 + 1) i = nI (ρ i) ∧ ρ i < N) : F_X3_lineUp M v (nI f) = some (wF (pr M (v + 2 + 1) (upd (ins (rA M (v + 2 + 1)) m (fin (fun i => rF M 1 (v + 1 + 4 + ρ i)) (rF M 1 (v + 1 + 4 + f)) m 0)) (fin (fun i => rF M 1 (v + 1 + 4 + ρ i)) (rF M 1 (v + 1 + 4 + f)) m 0) (nI f))) 33 (v + 2) (nI (m + 1))) := by
  rw [F_X3_lineUp, atN hN h10 hf, bd_s, nm_k]
  exact lineUp_l hN h10 hf hm hm10 hr m 0 FU (by omega) (by rw [FU_s]; omega)
/-- the row of numbers with one more -/
def zclr (z : Nat → Int32) (f : Nat) : Nat → (Nat → Int32)
  | 0 => z
  | m + 1 => zl (zclr z f m) f m 0
theorem zclr_o {z : Nat → Int32} {f g w : Nat} (hw : w < 17) : ∀ m, m ≤ 17 → zo (zclr z f m) g w = if g = f ∧ w < m then 0 else zo z g w
  | 0, _ => by rw [zclr, if_neg (by omega)]
  | m + 1, h => by
    rw [zclr, zo_zl (by omega) hw, zclr_o hw m (by omega)]
    by_cases e : g = f ∧ w = m
    · rw [if_pos e, if_pos (by omega)]
    · rw [if_neg e]
      by_cases e2 : g = f ∧ w < m
      · rw [if_pos e2, if_pos (by omega)]
      · rw [if_neg e2, if_neg (by omega)]
theorem zclr_lo {z : Nat → Int32} {f i : Nat} (hi : i < 16) : ∀ m, zclr z f m i = z i
  | 0 => rfl
  | m + 1 => by rw [zclr, zl_lo hi, zclr_lo hi m]
theorem zclr_hi {z : Nat → Int32} {f j : Nat} (hf : f < 10) (hj : 186 ≤ j) : ∀ m, m ≤ 17 → zclr z f m j = z j
  | 0, _ => rfl
  | m + 1, h => by rw [zclr, hi_zl hf (by omega) hj, zclr_hi hf hj m (by omega)]
def znew (z : Nat → Int32) (s i l fo : Int32) : Nat → Int32 := zls (zn z) (zclr z (zn z) 17) (mlst s i l fo)
def zcat (z : Nat → Int32) (i : Int32) : Nat := fin (fun p => zo z (zrow z p) 1) i (zn z) 0
def zcome (z : Nat → Int32) (s i l fo : Int32) : Nat → Int32 := upd (upd (zs2 (znew z s i l fo) (zn z + 1) (zcat z i)) (6 + zcat z i) (nI (zn z))) 0 (z 0 + 1)
theorem znew_o {z : Nat → Int32} {s i l fo : Int32} {g w : Nat} (hw : w < 17) : zo (znew z s i l fo) g w = if g = zn z then lk w 0 (mlst s i l fo) else zo z g w := by
  unfold znew
  rw [zo_zls hw _ _ mlst_w, zclr_o hw 17 (by decide), zclr_o hw 17 (by decide), if_pos (show zn z = zn z ∧ w < 17 from ⟨rfl, hw⟩)]
  by_cases e : g = zn z
  · rw [if_pos e, if_pos e]
  · rw [if_neg e, if_neg e, if_neg (fun q => e q.1)]
theorem znew_lo {z : Nat → Int32} {s i l fo : Int32} {j : Nat} (hj : j < 16) : znew z s i l fo j = z j := by
  unfold znew
  rw [zls_lo hj, zclr_lo hj]
theorem zcat_le {z : Nat → Int32} {i : Int32} : zcat z i ≤ zn z := by
  have := (fin_ok (a := fun p => zo z (zrow z p) 1) (x := i) (zn z) 0).2.1
  unfold zcat
  omega
theorem zcome_row {z : Nat → Int32} {s i l fo : Int32} {j : Nat} (hj : j ≤ zn z) (h10 : zn z < 10) : zcome z s i l fo (6 + j) = if j = zcat z i then nI (zn z) else if j < zcat z i then z (6 + j) else z (6 + (j - 1)) := by
  have hc := zcat_le (z := z) (i := i)
  unfold zcome
  rw [upd_n (by omega)]
  by_cases e : j = zcat z i
  · rw [if_pos e, e, upd_s]
  · rw [if_neg e, upd_n (by omega)]
    unfold zs2
    by_cases c : j < zcat z i
    · rw [if_pos c, if_neg (by omega), znew_lo (by omega)]
    · rw [if_neg c, if_pos (by omega), znew_lo (by omega), show 6 + j - 1 = 6 + (j - 1) by omega]
theorem zcome_else {z : Nat → Int32} {s i l fo : Int32} {j : Nat} (h10 : zn z < 10) (hj : (1 ≤ j ∧ j < 6) ∨ 16 ≤ j) : zcome z s i l fo j = znew z s i l fo j := by
  have hc := zcat_le (z := z) (i := i)
  unfold zcome
  rw [upd_n (by omega), upd_n (by omega)]
  unfold zs2
  rw [if_neg (by omega)]
theorem zcome_o {z : Nat → Int32} {s i l fo : Int32} {g w : Nat} (h10 : zn z < 10) (hw : w < 17) : zo (zcome z s i l fo) g w = if g = zn z then lk w 0 (mlst s i l fo) else zo z g w := by
  rw [← znew_o hw]
  exact zcome_else h10 (Or.inr (by omega))
theorem zcome_0 {z : Nat → Int32} {s i l fo : Int32} (hz : Z0 z) (h10 : zn z < 10) : zcome z s i l fo 0 = nI (zn z + 1) ∧ zn (zcome z s i l fo) = zn z + 1 := by
  have e : zcome z s i l fo 0 = nI (zn z + 1) := by
    unfold zcome
    rw [upd_s, hz.1, nI_1]
  refine ⟨e, ?_⟩
  show (zcome z s i l fo 0).toNatClampNeg = zn z + 1
  rw [e, nI_clamp (by omega)]
theorem zcome_ok {z : Nat → Int32} {s i l fo : Int32} {ln fn : Nat} (hz : ZW z) (ht : TH z) (h10 : zn z < 10) (hs : s = 0 ∨ s = 1) (hl : ln ≤ 99 ∧ l = nI ln) (hfo : fn ≤ 20 ∧ fo = nI fn) : ZW (zcome z s i l fo) ∧ TH (zcome z s i l fo) := by
  obtain ⟨e0, e1⟩ := zcome_0 (s := s) (i := i) (l := l) (fo := fo) hz.1 h10
  have hc := zcat_le (z := z) (i := i)
  have hrow : ∀ j, j < zn z + 1 → zcome z s i l fo (6 + j) = nI (zrow (zcome z s i l fo) j) ∧ zrow (zcome z s i l fo) j = if j = zcat z i then zn z else if j < zcat z i then zrow z j else zrow z (j - 1) := by
    intro j hj
    have h := zcome_row (s := s) (i := i) (l := l) (fo := fo) (show j ≤ zn z by omega) h10
    unfold zrow
    rw [h]
    by_cases c : j = zcat z i
    · rw [if_pos c, if_pos c, nI_clamp (by omega)]
      exact ⟨rfl, rfl⟩
    · rw [if_neg c, if_neg c]
      by_cases c2 : j < zcat z i
      · rw [if_pos c2, if_pos c2]
        exact ⟨(hz.1.2.2.1 j (by omega)).1, rfl⟩
      · rw [if_neg c2, if_neg c2]
        exact ⟨(hz.1.2.2.1 (j - 1) (by omega)).1, rfl⟩
  have hlt : ∀ j, j < zn z → zrow z j < zn z := fun j hj => (hz.1.2.2.1 j hj).2
  have Z : Z0 (zcome z s i l fo) := by
    refine ⟨by rw [e0, e1], by omega, fun j hj => ⟨(hrow j (by omega)).1, ?_⟩, fun a b ha hb e => ?_⟩
    · rw [(hrow j (by omega)).2, e1]
      split
      · omega
      · split
        · have := hlt j (by omega); omega
        · have := hlt (j - 1) (by omega); omega
    · rw [e1] at ha hb
      rw [(hrow a ha).2, (hrow b hb).2] at e
      have inj := hz.1.2.2.2
      by_cases a1 : a = zcat z i
      · rw [if_pos a1] at e
        by_cases b1 : b = zcat z i
        · omega
        · rw [if_neg b1] at e
          split at e
          · have := hlt b (by omega); omega
          · have := hlt (b - 1) (by omega); omega
      · rw [if_neg a1] at e
        by_cases b1 : b = zcat z i
        · rw [if_pos b1] at e
          split at e
          · have := hlt a (by omega); omega
          · have := hlt (a - 1) (by omega); omega
        · rw [if_neg b1] at e
          by_cases a2 : a < zcat z i
          · rw [if_pos a2] at e
            by_cases b2 : b < zcat z i
            · rw [if_pos b2] at e; exact inj a b (by omega) (by omega) e
            · rw [if_neg b2] at e; have := inj a (b - 1) (by omega) (by omega) e; omega
          · rw [if_neg a2] at e
            by_cases b2 : b < zcat z i
            · rw [if_pos b2] at e; have := inj (a - 1) b (by omega) (by omega) e; omega
            · rw [if_neg b2] at e; have := inj (a - 1) (b - 1) (by omega) (by omega) e; omega
  refine ⟨⟨Z, fun f hf => ?_, fun j hj => ?_⟩, ?_⟩
  · rw [e1] at hf
    by_cases e : f = zn z
    · have o : ∀ w, w < 17 → zo (zcome z s i l fo) f w = lk w 0 (mlst s i l fo) := fun w hw => by rw [zcome_o h10 hw, if_pos e]
      refine ⟨by rw [o 0 (by decide)]; exact hs, by rw [o 2 (by decide)]; exact ⟨ln, hl⟩, by rw [o 3 (by decide)]; exact ⟨ln, hl⟩, by rw [o 4 (by decide)]; exact ⟨fn, hfo⟩, ?_, by rw [o 6 (by decide)]; exact Or.inl rfl, Or.inl ⟨by rw [o 7 (by decide)]; rfl, by rw [o 8 (by decide)]; rfl, by rw [o 9 (by decide)]; rfl, by rw [o 10 (by decide)]; rfl⟩, fun c hcc => ?_⟩
      · rw [o 5 (by decide)]
        show ∃ x, x ≤ 9 ∧ (if s = 0 then 0 else 9) = nI x
        split
        · exact ⟨0, by omega, rfl⟩
        · exact ⟨9, by omega, rfl⟩
      · rw [o (11 + c) (by omega)]
        refine ⟨0, by omega, ?_⟩
        rcases (show c = 0 ∨ c = 1 ∨ c = 2 ∨ c = 3 by omega) with rfl | rfl | rfl | rfl <;> rfl
    · have h := hz.2.1 f (by omega)
      have o : ∀ w, w < 17 → zo (zcome z s i l fo) f w = zo z f w := fun w hw => by rw [zcome_o h10 hw, if_neg e]
      obtain ⟨h0, h2, h3, h4, h5, h6, h7, h8⟩ := h
      refine ⟨by rw [o 0 (by decide)]; exact h0, by rw [o 2 (by decide)]; exact h2, by rw [o 3 (by decide)]; exact h3, by rw [o 4 (by decide)]; exact h4, by rw [o 5 (by decide)]; exact h5, by rw [o 6 (by decide)]; exact h6, ?_, fun c hcc => by rw [o (11 + c) (by omega)]; exact h8 c hcc⟩
      rw [o 7 (by decide), o 8 (by decide), o 9 (by decide), o 10 (by decide), e1]
      rcases h7 with q | ⟨q1, ⟨g, q2, q3⟩, q4, q5⟩
      · exact Or.inl q
      · refine Or.inr ⟨q1, ⟨g, by omega, q3⟩, ?_, q5⟩
        rcases q4 with q | ⟨g2, q6, q7⟩
        · exact Or.inl q
        · exact Or.inr ⟨g2, by omega, q7⟩
  · rw [zcome_else h10 (Or.inr (by omega))]
    unfold znew
    rw [zls_hi h10 hj _ _ mlst_w, zclr_hi h10 hj 17 (by decide)]
    exact hz.2.2 j hj
  · have e2 : zcome z s i l fo 2 = z 2 := by rw [zcome_else h10 (Or.inl (by omega)), znew_lo (by decide)]
    rcases ht with q | ⟨f, q1, q2, q3, q4, q5⟩
    · exact Or.inl (e2.trans q)
    · have o : ∀ w, w < 17 → zo (zcome z s i l fo) f w = zo z f w := fun w hw => by rw [zcome_o h10 hw, if_neg (by omega)]
      exact Or.inr ⟨f, by omega, e2.trans q2, by rw [o 2 (by decide)]; exact q3, by rw [o 6 (by decide)]; exact q4, by rw [o 7 (by decide)]; exact q5⟩
/-- the class's enter -/
theorem center_l {M0 M : MS} {v : Nat} {R z : Nat → Int32} {s i l fo : Int32} (h : CR M0 v R M z) (hz : ZW z) (h10 : zn z < 10) (hZ : Z0 (zcome z s i l fo)) : ∃ M', F_X3_enter M v s i l fo = some (nI (zn z), M') ∧ CR M0 v R M' (zcome z s i l fo) := by
  obtain ⟨_, ⟨⟨a0, a1, a2, a3, a4, a5⟩, ⟨b1, b2⟩, c1, d1, d2⟩, ⟨e1, e2, e3⟩, r⟩ := id h
  obtain ⟨z0, z1⟩ := zcome_0 (s := s) (i := i) (l := l) (fo := fo) hz.1 h10
  rw [F_X3_enter, a0, hz.1.1, if_neg (show ¬ nI (zn z) < 0 from nI_pos (by omega)), if_pos (show nI (zn z) < (10 : Int32) from nI_lt (b := 10) h10 (by decide)), nm_k, gdb_t (inb_nI h10 (by decide)), nI_clamp (by omega), reset_l, bd_s, nm_k, cws_F h10 (by omega), a0, hz.1.1, nI_1]
  obtain ⟨M6, hM6⟩ : ∃ M6, wF (cws v (zn z) M (clst s i l fo)) 52 v (nI (zn z + 1)) = M6 := ⟨_, rfl⟩
  rw [hM6]
  have f52 : rF M6 52 v = nI (zn z + 1) := by rw [← hM6, rF_self]
  have f33 : rF M6 33 (v + 2) = nI (zn z) := by rw [← hM6, rF_wF, if_neg (by omega), cws_F h10 (by omega), b1, hz.1.1]
  have frow : rA M6 (v + 2 + 1) = rA M (v + 2 + 1) := by rw [← hM6, rA_wF, cws_A h10 (by omega)]
  have fcf : ∀ g w, g < 10 → w < 17 → cfo M6 v g w = if g = zn z then lk w 0 (mlst s i l fo) else cfo M v g w := fun g w hg hw => by
    rw [← hM6, cfo_glob, cfo_cws h10 hg hw _ _ clst_w, lst_same hw]
  have fin1 : rF M6 1 (v + 1 + 4 + zn z) = i := by
    have := fcf (zn z) 1 h10 (by decide)
    rw [if_pos rfl] at this
    exact this
  have fini : ∀ g, g < zn z → rF M6 1 (v + 1 + 4 + g) = zo z g 1 := fun g hg => by
    have := fcf g 1 (by omega) (by decide)
    rw [if_neg (by omega), c1 g hg 1 (by decide)] at this
    exact this
  have hl := lineUp_eq (M := M6) (v := v) (f := zn z) (m := zn z) (ρ := zrow z) f52 (by omega) (by omega) f33 h10 (fun j hj => by
    rw [frow, b2 j hj]
    exact ⟨(hz.1.2.2.1 j hj).1, by have := (hz.1.2.2.1 j hj).2; omega⟩)
  have hat : fin (fun j => rF M6 1 (v + 1 + 4 + zrow z j)) (rF M6 1 (v + 1 + 4 + zn z)) (zn z) 0 = zcat z i := by
    rw [fin1]
    unfold zcat
    exact fin_same _ _ (fun j _ hj => fini _ (hz.1.2.2.1 j (by omega)).2)
  rw [hat] at hl
  rw [hl, bd_s]
  have hc := zcat_le (z := z) (i := i)
  refine ⟨_, rfl, hZ, ⟨⟨?_, ?_, ?_, ?_, ?_, ?_⟩, ⟨?_, fun j hj => ?_⟩, fun g hg w hw => ?_, ?_, ?_⟩, ⟨fun c u hu => ?_, fun u hu => ?_, ?_⟩, ?_⟩
  · rw [rF_wF, if_neg (by omega), pr_F, f52, z0]
  · rw [rF_wF, if_neg (by omega), pr_F, ← hM6, rF_wF, if_neg (by omega), cws_F h10 (by omega), zcome_else h10 (by omega), znew_lo (by decide), a1]
  · rw [rF_wF, if_neg (by omega), pr_F, ← hM6, rF_wF, if_neg (by omega), cws_F h10 (by omega), zcome_else h10 (by omega), znew_lo (by decide), a2]
  · rw [rF_wF, if_neg (by omega), pr_F, ← hM6, rF_wF, if_neg (by omega), cws_F h10 (by omega), zcome_else h10 (by omega), znew_lo (by decide), a3]
  · rw [rF_wF, if_neg (by omega), pr_F, ← hM6, rF_wF, if_neg (by omega), cws_F h10 (by omega), zcome_else h10 (by omega), znew_lo (by decide), a4]
  · rw [rF_wF, if_neg (by omega), pr_F, ← hM6, rF_wF, if_neg (by omega), cws_F h10 (by omega), zcome_else h10 (by omega), znew_lo (by decide), a5]
  · rw [rF_self, z0]
  · rw [z1] at hj
    rw [rA_wF, pr_A, zcome_row (by omega) h10, frow]
    by_cases q : j = zcat z i
    · rw [if_pos q, q, upd_s]
    · rw [if_neg q, upd_n q]
      unfold ins
      by_cases q2 : j < zcat z i
      · rw [if_pos q2, if_neg (by omega), b2 j (by omega)]
      · rw [if_neg q2, if_pos (by omega), b2 (j - 1) (by omega)]
  · rw [z1] at hg
    have q1 : cfo (wF (pr M6 (v + 2 + 1) (upd (ins (rA M6 (v + 2 + 1)) (zn z) (zcat z i)) (zcat z i) (nI (zn z)))) 33 (v + 2) (nI (zn z + 1))) v g w = cfo M6 v g w := by
      rcases w_cases w with h | h | h | h | h
      · rw [cfo_1 h, cfo_1 h, rF_wF, if_neg (by omega), pr_F]
      · rw [cfo_2 h, cfo_2 h, rF_wF, if_neg (by omega), pr_F]
      · rw [cfo_3 h, cfo_3 h, rF_wF, if_neg (by omega), pr_F]
      · rw [cfo_4 h, cfo_4 h, rA_wF, pr_An (by omega)]
      · rw [cfo_5 h, cfo_5 h, rF_wF, if_neg (by omega), pr_F]
    rw [q1, fcf g w (by omega) hw, zcome_o h10 hw]
    by_cases q : g = zn z
    · rw [if_pos q, if_pos q]
    · rw [if_neg q, if_neg q, c1 g (by omega) w hw]
  · rw [rF_wF, if_neg (by omega), pr_F, ← hM6, rF_wF, if_neg (by omega), cws_F h10 (by omega), d1]
  · rw [rF_wF, if_neg (by omega), pr_F, ← hM6, rF_wF, if_neg (by omega), cws_F h10 (by omega), d2]
  · rw [rF_wF, if_neg (by omega), pr_F, ← hM6, rF_wF, if_neg (by omega), cws_F h10 (by omega), e1 c u hu]
  · rw [rA_wF, pr_An (by omega), ← hM6, rA_wF, cws_A h10 (by omega), e2 u hu]
  · rw [← e3, ← cws_R (v := v) (f := zn z) (clst s i l fo) M, ← hM6]
    rfl
  · rw [rA_wF, pr_An (by omega), ← hM6, rA_wF, cws_A h10 (by omega), r]

