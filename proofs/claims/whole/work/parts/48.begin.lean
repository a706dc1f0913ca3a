/-! the model's come; begin, both sides -/
theorem mcome_s {M : MS} {w : Nat → Int32} {n t : Nat} (hn : n < 10) (ht : t ≤ n) : ∀ d c k, c = t + d → c ≤ n → d < k → F_X5_come_l225 (nI n) (nI t) k (nI c) (mz M (zs2 w (n + 1) c)) = some (nI n, mz M (upd (upd (zs2 w (n + 1) t) (6 + t) (nI n)) 0 (w 0 + 1))) := by
  intro d
  induction d with
  | zero =>
    intro c k hc hcn hk
    obtain ⟨k, rfl⟩ : ∃ q, k = q + 1 := ⟨k - 1, by omega⟩
    have e : c = t := by omega
    subst e
    have e0 : upd (zs2 w (n + 1) c) (6 + c) (nI n) 0 = w 0 := by
      rw [upd_n (by omega)]
      unfold zs2
      rw [if_neg (by omega)]
    rw [F_X5_come_l225, if_pos (nI_le (Nat.le_refl _) (by omega)), ix_r, gdb_t (inb_nI (by omega) (by omega)), nI_clamp (by omega), nm_k, gd0, gd0, nm_k, tn0]
    simp only [wA_z, mz_mz, mz_z]
    rw [e0]
  | succ d ih =>
    intro c k hc hcn hk
    obtain ⟨k, rfl⟩ : ∃ q, k = q + 1 := ⟨k - 1, by omega⟩
    obtain ⟨c, rfl⟩ : ∃ q, c = q + 1 := ⟨c - 1, by omega⟩
    have e1 : (6 : Int32) + nI (c + 1) - 1 = nI (6 + c) := by rw [ix_r, show 6 + (c + 1) = (6 + c) + 1 by omega, nI_pred]
    rw [F_X5_come_l225, if_neg (nI_ge (by omega) (by omega)), e1, gdb_t (inb_nI (by omega) (by omega)), ix_r, gdb_t (inb_nI (by omega) (by omega)), nI_clamp (by omega), nI_clamp (by omega), nm_k, nm_k, pk_m1, wA_z, mz_mz, mz_z, zs2_up (by omega)]
    exact ih c k (by omega) (by omega) (by omega)
theorem mcome_f {M : MS} {w : Nat → Int32} {n : Nat} {ρ : Nat → Nat} {i : Int32} (hn : n < 10) (hr : ∀ p, p < n → w (6 + p) = nI (ρ p) ∧ ρ p < 10) : ∀ d p k, p + d = n → d < k → F_X5_come_l189 i (nI n) (mz M w) k (nI p) = F_X5_come_l225 (nI n) (nI (fin (fun q => zo w (ρ q) 1) i d p)) FU (nI n) (mz M w) := by
  intro d
  induction d with
  | zero =>
    intro p k hp hk
    obtain ⟨k, rfl⟩ : ∃ q, k = q + 1 := ⟨k - 1, by omega⟩
    rw [F_X5_come_l189, nm_k, if_pos (nI_le (by omega) (by omega)), fin]
  | succ d ih =>
    intro p k hp hk
    obtain ⟨k, rfl⟩ : ∃ q, k = q + 1 := ⟨k - 1, by omega⟩
    obtain ⟨r1, r2⟩ := hr p (by omega)
    rw [F_X5_come_l189, nm_k, if_neg (nI_ge (by omega) (by omega)), ix_r, gdb_t (inb_nI (by omega) (by omega)), nI_clamp (by omega), mz_z, r1, of_l r2 (by decide), bd_s, mz_z, fin]
    by_cases c : zo w (ρ p) 1 < i
    · rw [if_pos c, if_pos c]
    · rw [if_neg c, if_neg c, nm_k, nI_1]
      exact ih (p + 1) k (by omega) (by omega)
theorem mcome_l {M : MS} {z : Nat → Int32} {s i l fo : Int32} (hz : Z0 z) (h10 : zn z < 10) : ∀ d m k, m + d = 17 → d < k → F_X5_come_l100 s i l fo (nI (zn z)) k (nI m) (mz M (zclr z (zn z) m)) = some (nI (zn z), mz M (zcome z s i l fo)) := by
  intro d
  induction d with
  | zero =>
    intro m k hm hk
    obtain ⟨k, rfl⟩ : ∃ q, k = q + 1 := ⟨k - 1, by omega⟩
    have e : m = 17 := by omega
    subst e
    have last : (bd (F_X5_loseReadied (mz M (zl (zl (zl (zl (zl (zl (zclr z (zn z) 17) (zn z) 0 s) (zn z) 1 i) (zn z) 2 l) (zn z) 3 l) (zn z) 4 fo) (zn z) 5 (if s = 0 then 0 else 9))) (nI (zn z))) fun M31 => (F_X5_come_l189 i (nI (zn z)) M31 FU (0 : Int32))) = some (nI (zn z), mz M (zcome z s i l fo)) := by
      rw [lose_eq h10, bd_s, mz_z, mz_mz]
      have e1 : zlose (zl (zl (zl (zl (zl (zl (zclr z (zn z) 17) (zn z) 0 s) (zn z) 1 i) (zn z) 2 l) (zn z) 3 l) (zn z) 4 fo) (zn z) 5 (if s = 0 then 0 else 9)) (zn z) = znew z s i l fo := rfl
      rw [e1]
      have h1 := mcome_f (M := M) (w := znew z s i l fo) (ρ := zrow z) (i := i) h10 (fun p hp => by
        rw [znew_lo (by omega)]
        exact ⟨(hz.2.2.1 p hp).1, by have := (hz.2.2.1 p hp).2; omega⟩) (zn z) 0 FU (by omega) (by rw [FU_s]; omega)
      have e2 : fin (fun q => zo (znew z s i l fo) (zrow z q) 1) i (zn z) 0 = zcat z i := by
        unfold zcat
        refine fin_same _ _ (fun j _ hj => ?_)
        show zo (znew z s i l fo) (zrow z j) 1 = zo z (zrow z j) 1
        rw [znew_o (by decide), if_neg (by have := (hz.2.2.1 j (by omega)).2; omega)]
      have e3 : zs2 (znew z s i l fo) (zn z + 1) (zn z) = znew z s i l fo := by
        funext j
        unfold zs2
        rw [if_neg (by omega)]
      have h2 := mcome_s (M := M) (w := znew z s i l fo) h10 (zcat_le (z := z) (i := i)) (zn z - zcat z i) (zn z) FU (by have := zcat_le (z := z) (i := i); omega) (Nat.le_refl _) (by rw [FU_s]; omega)
      rw [e3, znew_lo (by decide)] at h2
      rw [e2] at h1
      exact h1.trans h2
    rw [F_X5_come_l100, if_pos (by decide), lay_l h10 (by decide), bd_s, lay_l h10 (by decide), bd_s, lay_l h10 (by decide), bd_s, lay_l h10 (by decide), bd_s, lay_l h10 (by decide), bd_s, nm_k]
    simp only [mz_mz, mz_z]
    by_cases c : s = 0
    · rw [if_neg (fun q => q c), lay_l h10 (by decide), bd_s, mz_mz, mz_z]
      rw [if_pos c] at last
      exact last
    · rw [if_pos c, lay_l h10 (by decide), bd_s, mz_mz, mz_z]
      rw [if_neg c] at last
      exact last
  | succ d ih =>
    intro m k hm hk
    obtain ⟨k, rfl⟩ : ∃ q, k = q + 1 := ⟨k - 1, by omega⟩
    rw [F_X5_come_l100, if_neg (show ¬ (17 : Int32) ≤ nI m from nI_ge (b := 17) (by omega) (by decide)), lay_eq h10 (w := m) (by omega) rfl, bd_s, nm_k, nI_1, mz_mz, mz_z]
    exact ih (m + 1) k (by omega) (by omega)
/-- the row as begin lays it -/
def insN (r : Nat → Nat) (n t x : Nat) : Nat → Nat := fun i => if i = t then x else if t < i ∧ i ≤ n then r (i - 1) else r i
def br (I : Nat → Int32) : Nat → (Nat → Nat)
  | 0 => fun _ => 0
  | m + 1 => insN (br I m) m (fin (fun p => I (br I m p)) (I m) m 0) m
theorem br_ok {I : Nat → Int32} : ∀ m, (∀ i, i < m → br I m i < m) ∧ (∀ i j, i < m → j < m → br I m i = br I m j → i = j) ∧ (∀ i j, i < j → j < m → I (br I m j) ≤ I (br I m i))
  | 0 => ⟨fun i h => by omega, fun i j h => by omega, fun i j _ h => by omega⟩
  | m + 1 => by
    obtain ⟨h1, h2, h3⟩ := br_ok (I := I) m
    obtain ⟨_, f2, f3, f4⟩ := fin_ok (a := fun p => I (br I m p)) (x := I m) m 0
    obtain ⟨t, ht⟩ : ∃ t, fin (fun p => I (br I m p)) (I m) m 0 = t := ⟨_, rfl⟩
    rw [ht] at f2 f3 f4
    have e : ∀ i, br I (m + 1) i = if i = t then m else if t < i ∧ i ≤ m then br I m (i - 1) else br I m i := fun i => by rw [br, ht]; rfl
    have low : ∀ j, t ≤ j → j < m → I (br I m j) < I m := fun j g1 g2 => by
      have q4 := f4 (by omega)
      by_cases q : j = t
      · rw [q]; exact q4
      · have q5 := h3 t j (by omega) g2
        have q4' : I (br I m t) < I m := q4
        rw [Int32.le_iff_toInt_le] at q5
        rw [Int32.lt_iff_toInt_lt] at q4' ⊢
        omega
    have up : ∀ j, j < t → I m ≤ I (br I m j) := fun j g1 => Int32.not_lt.mp (f3 j (by omega) g1)
    refine ⟨fun i hi => ?_, fun i j hi hj q => ?_, fun i j hij hj => ?_⟩
    · rw [e i]
      by_cases c : i = t
      · rw [if_pos c]; omega
      · rw [if_neg c]
        by_cases c2 : t < i ∧ i ≤ m
        · rw [if_pos c2]; have := h1 (i - 1) (by omega); omega
        · rw [if_neg c2]; have := h1 i (by omega); omega
    · rw [e i, e j] at q
      by_cases c : i = t
      · rw [if_pos c] at q
        by_cases d : j = t
        · omega
        · rw [if_neg d] at q
          by_cases d2 : t < j ∧ j ≤ m
          · rw [if_pos d2] at q; have := h1 (j - 1) (by omega); omega
          · rw [if_neg d2] at q; have := h1 j (by omega); omega
      · rw [if_neg c] at q
        by_cases d : j = t
        · rw [if_pos d] at q
          by_cases c2 : t < i ∧ i ≤ m
          · rw [if_pos c2] at q; have := h1 (i - 1) (by omega); omega
          · rw [if_neg c2] at q; have := h1 i (by omega); omega
        · rw [if_neg d] at q
          by_cases c2 : t < i ∧ i ≤ m
          · rw [if_pos c2] at q
            by_cases d2 : t < j ∧ j ≤ m
            · rw [if_pos d2] at q; have := h2 (i - 1) (j - 1) (by omega) (by omega) q; omega
            · rw [if_neg d2] at q; have := h2 (i - 1) j (by omega) (by omega) q; omega
          · rw [if_neg c2] at q
            by_cases d2 : t < j ∧ j ≤ m
            · rw [if_pos d2] at q; have := h2 i (j - 1) (by omega) (by omega) q; omega
            · rw [if_neg d2] at q; exact h2 i j (by omega) (by omega) q
    · rw [e i, e j]
      by_cases c : i = t
      · rw [if_pos c, if_neg (show ¬ j = t by omega), if_pos (show t < j ∧ j ≤ m by omega)]
        exact Int32.le_of_lt (low (j - 1) (by omega) (by omega))
      · rw [if_neg c]
        by_cases d : j = t
        · rw [if_pos d, if_neg (show ¬ (t < i ∧ i ≤ m) by omega)]
          exact up i (by omega)
        · rw [if_neg d]
          by_cases c2 : t < i ∧ i ≤ m
          · rw [if_pos c2, if_pos (show t < j ∧ j ≤ m by omega)]
            exact h3 (i - 1) (j - 1) (by omega) (by omega)
          · rw [if_neg c2]
            by_cases d2 : t < j ∧ j ≤ m
            · rw [if_pos d2]
              by_cases g : i = j - 1
              · omega
              · exact h3 i (j - 1) (by omega) (by omega)
            · rw [if_neg d2]; exact h3 i j hij (by omega)
def zI (z : Nat → Int32) : Nat → Int32 := fun f => zo z f 1
def zbr (z : Nat → Int32) (m : Nat) : Nat → Int32 := fun j => if 6 ≤ j ∧ j < 6 + m then nI (br (zI z) m (j - 6)) else z j
theorem zbr_row {z : Nat → Int32} {m i : Nat} (hi : i < m) : zbr z m (6 + i) = nI (br (zI z) m i) := by
  unfold zbr
  rw [if_pos (by omega), show 6 + i - 6 = i by omega]
theorem zbr_else {z : Nat → Int32} {m j : Nat} (h : j < 6 ∨ 6 + m ≤ j) : zbr z m j = z j := by
  unfold zbr
  rw [if_neg (by omega)]
theorem zbr_o {z : Nat → Int32} {m g w : Nat} (hm : m ≤ 10) : zo (zbr z m) g w = zo z g w := by
  unfold zo
  exact zbr_else (by omega)
theorem mbeg_in {M : MS} {z : Nat → Int32} {m t : Nat} {K : Int32 → MS → Option (Int32 × MS)} (hm : m < 10) (ht : fin (fun p => zI z (br (zI z) m p)) (zI z m) m 0 = t) : ∀ d c k, c = t + d → c ≤ m → d < k → F_X5_begin_l23 (nI m) K k (nI c) (mz M (zs2 (zbr z m) (m + 1) c)) = K (nI (m + 1)) (mz M (zbr z (m + 1))) := by
  obtain ⟨h1, h2, h3⟩ := br_ok (I := zI z) m
  obtain ⟨_, f2, f3, f4⟩ := fin_ok (a := fun p => zI z (br (zI z) m p)) (x := zI z m) m 0
  rw [ht] at f2 f3 f4
  have hrow : ∀ c q, q < m → q < c → zs2 (zbr z m) (m + 1) c (6 + q) = nI (br (zI z) m q) := fun c q hq hc => by
    unfold zs2
    rw [if_neg (by omega), zbr_row hq]
  have ho : ∀ c g, c ≤ m → zo (zs2 (zbr z m) (m + 1) c) g 1 = zI z g := fun c g hc => by
    unfold zo zs2
    rw [if_neg (by omega), zbr_else (by omega)]
    rfl
  have hend : upd (zs2 (zbr z m) (m + 1) t) (6 + t) (nI m) = zbr z (m + 1) := by
    funext j
    by_cases c : j < 6 ∨ 6 + (m + 1) ≤ j
    · rw [zbr_else c, upd_n (by omega)]
      unfold zs2
      rw [if_neg (by omega), zbr_else (by omega)]
    · obtain ⟨i, rfl⟩ : ∃ i, j = 6 + i := ⟨j - 6, by omega⟩
      rw [zbr_row (by omega), br, ht]
      unfold insN
      by_cases e : i = t
      · rw [if_pos e, e, upd_s]
      · rw [if_neg e, upd_n (by omega)]
        unfold zs2
        by_cases e2 : t < i
        · rw [if_pos (show t < i ∧ i ≤ m by omega), if_pos (by omega), show 6 + i - 1 = 6 + (i - 1) by omega, zbr_row (by omega)]
        · rw [if_neg (show ¬ (t < i ∧ i ≤ m) by omega), if_neg (by omega), zbr_row (by omega)]
  have stop : (gdb (inb ((6 : Int32) + nI t) 186) (nm (wA (mz M (zs2 (zbr z m) (m + 1) t)) 221 (Int32.toNatClampNeg ((6 : Int32) + nI t)) (nI m)) fun M26 => (nm (nI m + (1 : Int32)) fun x27 => (K x27 M26)))) = K (nI (m + 1)) (mz M (zbr z (m + 1))) := by
    rw [ix_r, gdb_t (inb_nI (by omega) (by omega)), nI_clamp (by omega), nm_k, nm_k, wA_z, mz_mz, mz_z, hend, nI_1]
  intro d
  induction d with
  | zero =>
    intro c k hc hcn hk
    obtain ⟨k, rfl⟩ : ∃ q, k = q + 1 := ⟨k - 1, by omega⟩
    have e : c = t := by omega
    subst e
    rw [F_X5_begin_l23, nm_k]
    cases c with
    | zero => rw [if_pos (by decide)]; exact stop
    | succ c =>
      have e1 : (6 : Int32) + nI (c + 1) - 1 = nI (6 + c) := by rw [ix_r, show 6 + (c + 1) = (6 + c) + 1 by omega, nI_pred]
      have hb := h1 c (by omega)
      have hge := f3 c (by omega) (by omega)
      rw [if_neg (nI_nle (by omega) (by omega)), e1, gdb_t (inb_nI (by omega) (by omega)), nI_clamp (by omega), mz_z, hrow _ c (by omega) (by omega), of_l (by omega) (by decide), bd_s, of_l (by omega) (by decide), bd_s, mz_z, ho _ _ (by omega), ho _ _ (by omega), if_pos (Int32.not_lt.mp hge)]
      exact stop
  | succ d ih =>
    intro c k hc hcn hk
    obtain ⟨k, rfl⟩ : ∃ q, k = q + 1 := ⟨k - 1, by omega⟩
    obtain ⟨c, rfl⟩ : ∃ q, c = q + 1 := ⟨c - 1, by omega⟩
    have e1 : (6 : Int32) + nI (c + 1) - 1 = nI (6 + c) := by rw [ix_r, show 6 + (c + 1) = (6 + c) + 1 by omega, nI_pred]
    have hb := h1 c (by omega)
    have hlt : zI z (br (zI z) m c) < zI z m := by
      have q4 := f4 (by omega)
      by_cases q : c = t
      · rw [q]; exact q4
      · have q5 := h3 t c (by omega) (by omega)
        have q4' : zI z (br (zI z) m t) < zI z m := q4
        rw [Int32.le_iff_toInt_le] at q5
        rw [Int32.lt_iff_toInt_lt] at q4' ⊢
        omega
    rw [F_X5_begin_l23, nm_k, if_neg (nI_nle (by omega) (by omega)), e1, gdb_t (inb_nI (by omega) (by omega)), nI_clamp (by omega), mz_z, hrow _ c (by omega) (by omega), of_l (by omega) (by decide), bd_s, of_l (by omega) (by decide), bd_s, mz_z, ho _ _ (by omega), ho _ _ (by omega), if_neg (fun q => Int32.not_lt.mpr q hlt), gdb_t (inb_nI (by omega) (by omega)), ix_r, gdb_t (inb_nI (by omega) (by omega)), nI_clamp (by omega), nm_k, nm_k, pk_m1, wA_z, mz_mz, mz_z]
    have e2 : upd (zs2 (zbr z m) (m + 1) (c + 1)) (6 + (c + 1)) (nI (br (zI z) m c)) = zs2 (zbr z m) (m + 1) c := by
      rw [← hrow (c + 1) c (by omega) (by omega)]
      exact zs2_up (by omega)
    rw [e2]
    exact ih c k (by omega) (by omega) (by omega)
theorem mbeg_l {M : MS} {z : Nat → Int32} (hz : Z0 z) : ∀ d m k, m + d = zn z → d < k → F_X5_begin_l11 k (nI m) (mz M (zbr z m)) = F_X5_begin_l96 FU (0 : Int32) (mz M (zbr z (zn z))) := by
  have hb := hz.2.1
  intro d
  induction d with
  | zero =>
    intro m k hm hk
    obtain ⟨k, rfl⟩ : ∃ q, k = q + 1 := ⟨k - 1, by omega⟩
    have e : m = zn z := by omega
    subst e
    rw [F_X5_begin_l11, gd0, tn0, mz_z, zbr_else (by omega), if_pos ((z0_le hz (by omega)).mpr (by omega))]
  | succ d ih =>
    intro m k hm hk
    obtain ⟨k, rfl⟩ : ∃ q, k = q + 1 := ⟨k - 1, by omega⟩
    have f2 := (fin_ok (a := fun p => zI z (br (zI z) m p)) (x := zI z m) m 0).2.1
    have e3 : zs2 (zbr z m) (m + 1) m = zbr z m := by
      funext j
      unfold zs2
      rw [if_neg (by omega)]
    have h := mbeg_in (M := M) (z := z) (m := m) (K := fun x0 x1 => F_X5_begin_l11 k x0 x1) (by omega) rfl (m - fin (fun p => zI z (br (zI z) m p)) (zI z m) m 0) m FU (by omega) (Nat.le_refl _) (by rw [FU_s]; omega)
    rw [e3] at h
    rw [F_X5_begin_l11, gd0, tn0, mz_z, zbr_else (by omega), if_neg (fun q => by have := (z0_le hz (by omega)).mp q; omega), h]
    exact ih (m + 1) k (by omega) (by omega)
def zloses (z : Nat → Int32) : Nat → (Nat → Int32)
  | 0 => z
  | m + 1 => zlose (zloses z m) m
theorem zloses_lo {z : Nat → Int32} {i : Nat} (hi : i < 16) : ∀ m, zloses z m i = z i
  | 0 => rfl
  | m + 1 => by rw [zloses, zlose_lo hi, zloses_lo hi m]
theorem zloses_o {z : Nat → Int32} {g w : Nat} (hw : w < 17) : ∀ m, zo (zloses z m) g w = if g < m ∧ 7 ≤ w ∧ w ≤ 10 then -1 else zo z g w
  | 0 => by rw [zloses, if_neg (by omega)]
  | m + 1 => by
    rw [zloses, zlose_o hw, zloses_o hw m]
    by_cases e : g = m ∧ 7 ≤ w ∧ w ≤ 10
    · rw [if_pos e, if_pos (by omega)]
    · rw [if_neg e]
      by_cases e2 : g < m ∧ 7 ≤ w ∧ w ≤ 10
      · rw [if_pos e2, if_pos (by omega)]
      · rw [if_neg e2, if_neg (by omega)]
theorem ZW_loses {z : Nat → Int32} (hz : ZW z) : ∀ m, m ≤ zn z → ZW (zloses z m) ∧ zn (zloses z m) = zn z
  | 0, _ => ⟨hz, rfl⟩
  | m + 1, h => by
    obtain ⟨a, b⟩ := ZW_loses hz m (by omega)
    exact ⟨ZW_lose a (by rw [b]; omega), by rw [zloses, (Z0_lose a.1).2.1, b]⟩
def zb0 (z : Nat → Int32) : Nat → Int32 := zloses (zbr z (zn z)) (zn z)
def zb1' (z : Nat → Int32) : Nat → Int32 := upd (zdel (zb0 z) (zn z)) 1 1
def zbegin (z : Nat → Int32) : Nat → Int32 := zgo 100 (zb1' z) 0
theorem Z0_br {z : Nat → Int32} (hz : Z0 z) : Z0 (zbr z (zn z)) ∧ zn (zbr z (zn z)) = zn z := by
  have hb := hz.2.1
  obtain ⟨h1, h2, h3⟩ := br_ok (I := zI z) (zn z)
  have e0 : zbr z (zn z) 0 = z 0 := zbr_else (by omega)
  have hn : zn (zbr z (zn z)) = zn z := by show (zbr z (zn z) 0).toNatClampNeg = zn z; rw [e0]; rfl
  have hr : ∀ i, i < zn z → zrow (zbr z (zn z)) i = br (zI z) (zn z) i := fun i hi => by
    unfold zrow
    rw [zbr_row hi, nI_clamp (by have := h1 i hi; omega)]
  refine ⟨⟨by rw [e0, hn]; exact hz.1, by rw [hn]; exact hb, fun i hi => ?_, fun i j hi hj e => ?_⟩, hn⟩
  · rw [hn] at hi
    rw [hr i hi, hn, zbr_row hi]
    exact ⟨rfl, h1 i hi⟩
  · rw [hn] at hi hj
    rw [hr i hi, hr j hj] at e
    exact h2 i j hi hj e
theorem ZW_b0 {z : Nat → Int32} (hz : ZW z) : ZW (zb0 z) ∧ zn (zb0 z) = zn z := by
  have hb := hz.1.2.1
  obtain ⟨a, b⟩ := Z0_br hz.1
  have hw : ZW (zbr z (zn z)) := ⟨a, fun f hf => fw_of b (fun w _ _ _ _ => zbr_o hb) (hz.2.1 f (by rw [b] at hf; exact hf)), fun j hj => by rw [zbr_else (by omega)]; exact hz.2.2 j hj⟩
  obtain ⟨c, d⟩ := ZW_loses hw (zn z) (by rw [b]; exact Nat.le_refl _)
  exact ⟨c, d.trans b⟩
theorem ZW_b1 {z : Nat → Int32} (hz : ZW z) : ZW (zb1' z) ∧ zn (zb1' z) = zn z := by
  obtain ⟨a, b⟩ := ZW_b0 hz
  have c : ZW (zdel (zb0 z) (zn z)) := ZW_del a _ (by rw [b]; exact Nat.le_refl _)
  have d : zn (zdel (zb0 z) (zn z)) = zn z := by rw [(Z0_del a.1).2.1, b]
  exact ⟨ZW_up c (by decide) (by decide), (zn_up c.1 (by decide) (by decide)).trans d⟩
theorem zbegin_ok {z : Nat → Int32} (hz : ZW z) : ZW (zbegin z) ∧ TH (zbegin z) ∧ zn (zbegin z) = zn z := by
  obtain ⟨a, b⟩ := ZW_b1 hz
  have := zmu_60 a
  obtain ⟨c, d, e⟩ := zgo_ok 100 (zb1' z) 0 a (Nat.zero_le _) (by omega)
  exact ⟨c, d, e.trans b⟩
theorem mlos_l {M : MS} {y : Nat → Int32} (hy : ZW y) : ∀ d m k, m + d = zn y → d < k → F_X5_begin_l96 k (nI m) (mz M (zloses y m)) = (bd (F_X5_goOn (mz M (upd (zdel (zloses y (zn y)) (zn y)) 1 1)) (0 : Int32)) fun M17 => (gdb (inb (2 : Int32) 186) (some ((rA M17 221 (Int32.toNatClampNeg (2 : Int32))), M17)))) := by
  have hb := hy.1.2.1
  intro d
  induction d with
  | zero =>
    intro m k hm hk
    obtain ⟨k, rfl⟩ : ∃ q, k = q + 1 := ⟨k - 1, by omega⟩
    have e : m = zn y := by omega
    subst e
    obtain ⟨a, b⟩ := ZW_loses hy (zn y) (Nat.le_refl _)
    rw [F_X5_begin_l96, gd0, tn0, mz_z, zloses_lo (by decide), if_pos ((z0_le hy.1 (by omega)).mpr (by omega)), endDelays_eq (by rw [mz_z]; exact a.1), bd_s, gd1, nm_k, tn1, wA_z, mz_z, mz_mz, mz_z, mz_mz, b]
  | succ d ih =>
    intro m k hm hk
    obtain ⟨k, rfl⟩ : ∃ q, k = q + 1 := ⟨k - 1, by omega⟩
    rw [F_X5_begin_l96, gd0, tn0, mz_z, zloses_lo (by decide), if_neg (fun q => by have := (z0_le hy.1 (by omega)).mp q; omega), lose_eq (by omega), bd_s, nm_k, nI_1, mz_z, mz_mz]
    exact ih (m + 1) k (by omega) (by omega)
/-- the model's begin, behind save -/
theorem mbegin_eq {M : MS} (hz : ZW (rA M 221)) : F_X5_begin_l11 FU (0 : Int32) M = some (zbegin (rA M 221) 2, mz M (zbegin (rA M 221))) := by
  have hb := hz.1.2.1
  obtain ⟨z, hzz⟩ : ∃ z, rA M 221 = z := ⟨_, rfl⟩
  rw [hzz] at hz hb ⊢
  have h1 := mbeg_l (M := M) hz.1 (zn z) 0 FU (by omega) (by rw [FU_s]; omega)
  have e0 : zbr z 0 = z := by funext j; exact zbr_else (by omega)
  have eM : mz M z = M := by rw [← hzz]; exact mz_self
  rw [e0, eM] at h1
  obtain ⟨a, b⟩ := Z0_br hz.1
  have hw : ZW (zbr z (zn z)) := ⟨a, fun f hf => fw_of b (fun w _ _ _ _ => zbr_o hb) (hz.2.1 f (by rw [b] at hf; exact hf)), fun j hj => by rw [zbr_else (by omega)]; exact hz.2.2 j hj⟩
  have h2 := mlos_l (M := M) hw (zn z) 0 FU (by rw [b]; omega) (by rw [FU_s]; omega)
  obtain ⟨c, d⟩ := ZW_b1 hz
  have hmu := zmu_60 c
  have h3 := goOn_l (M := M) 100 (zb1' z) 0 FU c.1 (Nat.zero_le _) (by omega) (by rw [FU_s]; omega)
  have e4 : upd (zdel (zloses (zbr z (zn z)) (zn (zbr z (zn z)))) (zn (zbr z (zn z)))) 1 1 = zb1' z := by rw [b]; rfl
  rw [e4] at h2
  refine (h1.trans h2).trans ?_
  have h3' : F_X5_goOn (mz M (zb1' z)) 0 = some (mz M (zgo 100 (zb1' z) 0)) := h3
  rw [h3', bd_s, gd2, tn2, mz_z]
  rfl
