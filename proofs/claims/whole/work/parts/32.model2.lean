theorem has_l {M : MS} {f c : Nat} (hf : f < 10) (hc : c < 4) : F_X5_has M (nI f) (OfNat.ofNat c) = some (if 0 < zo (rA M 221) f (11 + c) then 1 else 0) := has_eq hf hc rfl
/-- one who stands in the row comes to another place of it -/
def zs1 (z : Nat → Int32) (p k : Nat) : Nat → Int32 := fun i => if 6 + p ≤ i ∧ i < 6 + k then z (i + 1) else z i
def zs2 (w : Nat → Int32) (n k : Nat) : Nat → Int32 := fun i => if 6 + k < i ∧ i < 6 + n then w (i - 1) else w i
def zmv (z : Nat → Int32) (f : Int32) (p t : Nat) : Nat → Int32 := upd (zs2 (zs1 z p (zn z - 1)) (zn z) t) (6 + t) f
theorem zs1_up {z : Nat → Int32} {p k : Nat} (h : p ≤ k) : upd (zs1 z p k) (6 + k) (zs1 z p k (6 + k + 1)) = zs1 z p (k + 1) := by
  funext i
  unfold upd zs1
  by_cases e : i = 6 + k
  · subst e
    rw [if_pos rfl, if_neg (by omega), if_pos (by omega)]
  · rw [if_neg e]
    by_cases c : 6 + p ≤ i ∧ i < 6 + k
    · rw [if_pos c, if_pos (by omega)]
    · rw [if_neg c, if_neg (by omega)]
theorem zs2_up {w : Nat → Int32} {n k : Nat} (h : k + 1 < n) : upd (zs2 w n (k + 1)) (6 + (k + 1)) (zs2 w n (k + 1) (6 + k)) = zs2 w n k := by
  funext i
  unfold upd zs2
  by_cases e : i = 6 + (k + 1)
  · subst e
    rw [if_pos rfl, if_neg (by omega), if_pos (by omega)]
    congr 1
  · rw [if_neg e]
    by_cases c : 6 + (k + 1) < i ∧ i < 6 + n
    · rw [if_pos c, if_pos (by omega)]
    · rw [if_neg c, if_neg (by omega)]
theorem mv2_l {M : MS} {w : Nat → Int32} {f : Int32} {n t : Nat} (hn : n ≤ 10) (ht : t < n) : ∀ d c k, c = t + d → c < n → d < k → F_X5_moveInRow_l53 f (nI t) k (nI c) (mz M (zs2 w n c)) = some (mz M (upd (zs2 w n t) (6 + t) f)) := by
  intro d
  induction d with
  | zero =>
    intro c k h hc hk
    obtain ⟨k, rfl⟩ : ∃ q, k = q + 1 := ⟨k - 1, by omega⟩
    have e : c = t := by omega
    subst e
    rw [F_X5_moveInRow_l53, if_pos ((nI_leI (by omega) (by omega)).mpr (Nat.le_refl _)), ix_r, gdb_t (inb_nI (by omega) (by omega)), nI_clamp (by omega), nm_k, wA_z, mz_mz, mz_z]
  | succ d ih =>
    intro c k h hc hk
    obtain ⟨k, rfl⟩ : ∃ q, k = q + 1 := ⟨k - 1, by omega⟩
    obtain ⟨c, rfl⟩ : ∃ q, c = q + 1 := ⟨c - 1, by omega⟩
    have e1 : (6 : Int32) + nI (c + 1) - 1 = nI (6 + c) := by rw [ix_r, show 6 + (c + 1) = (6 + c) + 1 by omega, nI_pred]
    rw [F_X5_moveInRow_l53, if_neg (fun q => by have := (nI_leI (by omega) (by omega)).mp q; omega), e1, gdb_t (inb_nI (by omega) (by omega)), ix_r, gdb_t (inb_nI (by omega) (by omega)), nI_clamp (by omega), nI_clamp (by omega), nm_k, nm_k, pk_m1, wA_z, mz_mz, mz_z, zs2_up (by omega)]
    exact ih c k (by omega) (by omega) (by omega)
theorem mv1_l {M : MS} {z : Nat → Int32} {f : Int32} {p t : Nat} (hz : Z0 z) (ht : t < zn z) : ∀ d c k, c + d = zn z - 1 → p ≤ c → d < k → F_X5_moveInRow_l6 f (nI t) k (nI c) (mz M (zs1 z p c)) = some (mz M (zmv z f p t)) := by
  have hb := hz.2.1
  have hlo : ∀ c, zs1 z p c 0 = z 0 := fun c => by unfold zs1; rw [if_neg (by omega)]
  intro d
  induction d with
  | zero =>
    intro c k h hp hk
    obtain ⟨k, rfl⟩ : ∃ q, k = q + 1 := ⟨k - 1, by omega⟩
    have e : c = zn z - 1 := by omega
    have e0 : z 0 - 1 = nI (zn z - 1) := by rw [hz.1, show zn z = (zn z - 1) + 1 by omega, nI_pred]; rfl
    rw [F_X5_moveInRow_l6, gd0, tn0, mz_z, hlo, nI_1, if_pos ((z0_le hz (by omega)).mpr (by omega)), gd0, e0, nm_k, e]
    have h2 := mv2_l (M := M) (w := zs1 z p (zn z - 1)) (f := f) (n := zn z) hb ht (zn z - 1 - t) (zn z - 1) FU (by omega) (by omega) (by rw [FU_s]; omega)
    have e2 : zs2 (zs1 z p (zn z - 1)) (zn z) (zn z - 1) = zs1 z p (zn z - 1) := by
      funext i
      unfold zs2
      rw [if_neg (by omega)]
    rw [e2] at h2
    exact h2
  | succ d ih =>
    intro c k h hp hk
    obtain ⟨k, rfl⟩ : ∃ q, k = q + 1 := ⟨k - 1, by omega⟩
    have e1 : (6 : Int32) + nI c + 1 = nI (6 + c + 1) := by rw [ix_r, nI_1]
    rw [F_X5_moveInRow_l6, gd0, tn0, mz_z, hlo, nI_1, if_neg (fun q => by have := (z0_le hz (by omega)).mp q; omega), e1, gdb_t (inb_nI (by omega) (by omega)), ix_r, gdb_t (inb_nI (by omega) (by omega)), nI_clamp (by omega), nI_clamp (by omega), nm_k, nm_k, wA_z, mz_mz, mz_z, zs1_up hp]
    exact ih (c + 1) k (by omega) (by omega) (by omega)
theorem move_eq {M : MS} {i t : Nat} (hz : Z0 (rA M 221)) (hi : i < zn (rA M 221)) (ht : t < zn (rA M 221)) : F_X5_moveInRow M (nI (zrow (rA M 221) i)) (nI t) = some (mz M (zmv (rA M 221) (nI (zrow (rA M 221) i)) i t)) := by
  have hb := hz.2.1
  rw [F_X5_moveInRow, place_eq hz, bd_s, zpl_at hz hi]
  have h := mv1_l (M := M) (f := nI (zrow (rA M 221) i)) (p := i) hz ht (zn (rA M 221) - 1 - i) i FU (by omega) (Nat.le_refl _) (by rw [FU_s]; omega)
  have e : zs1 (rA M 221) i i = rA M 221 := by
    funext j
    unfold zs1
    rw [if_neg (by omega)]
  rw [e, mz_self] at h
  exact h
/-- the row behind a move: who stands where -/
theorem zmv_row {z : Nat → Int32} {f : Int32} {p t i : Nat} (hi : i < zn z) (hp : p < zn z) (ht : t < zn z) : zmv z f p t (6 + i) = if i = t then f else if i < t then (if i < p then z (6 + i) else z (6 + (i + 1))) else (if i - 1 < p then z (6 + (i - 1)) else z (6 + i)) := by
  unfold zmv upd zs2 zs1
  by_cases c1 : i = t
  · subst c1; rw [if_pos rfl, if_pos rfl]
  · rw [if_neg (by omega), if_neg c1]
    by_cases c2 : i < t
    · rw [if_neg (by omega), if_pos c2]
      by_cases c3 : i < p
      · rw [if_pos c3, if_neg (by omega)]
      · rw [if_neg c3, if_pos (by omega)]; rfl
    · rw [if_pos (by omega), if_neg c2, show 6 + i - 1 = 6 + (i - 1) by omega]
      by_cases c3 : i - 1 < p
      · rw [if_pos c3, if_neg (by omega)]
      · rw [if_neg c3, if_pos (by omega)]
        congr 1
        omega
theorem zmv_else {z : Nat → Int32} {f : Int32} {p t j : Nat} (hp : p < zn z) (ht : t < zn z) (hj : j < 6 ∨ 6 + zn z ≤ j) : zmv z f p t j = z j := by
  unfold zmv upd zs2 zs1
  rw [if_neg (by omega), if_neg (by omega), if_neg (by omega)]
/-- a turn begins -/
def zbeg (z : Nat → Int32) (f : Nat) : Nat → Int32 :=
  if 0 < zo z f 14 then zl (zlose (upd (upd z 2 (nI f)) 5 (z 5 + 1)) f) f 2 (if 2 ≤ zo z f 2 then zo z f 2 - 2 else 0) else zlose (upd (upd z 2 (nI f)) 5 (z 5 + 1)) f
def zok (z : Nat → Int32) (f : Nat) : Prop := ¬ zo z f 2 = 0 ∧ ¬ 0 < zo z f 11
theorem zb1 {z : Nat → Int32} {f f' w : Nat} (hw : w < 17) : zo (zlose (upd (upd z 2 (nI f)) 5 (z 5 + 1)) f) f' w = if f' = f ∧ 7 ≤ w ∧ w ≤ 10 then -1 else zo z f' w := by
  rw [zlose_o hw, zo_lo (by omega), zo_lo (by omega)]
theorem zb1n {z : Nat → Int32} {f f' w : Nat} (hw : w < 17) (h : ¬ (7 ≤ w ∧ w ≤ 10)) : zo (zlose (upd (upd z 2 (nI f)) 5 (z 5 + 1)) f) f' w = zo z f' w := by
  rw [zb1 hw, if_neg (fun q => h q.2)]
theorem begin_eq {M : MS} {f : Nat} (hf : f < 10) : F_X5_beginTurn M (nI f) = some ((if zo (zbeg (rA M 221) f) f 2 = 0 then 0 else if 0 < zo (zbeg (rA M 221) f) f 11 then 0 else 1), mz M (zbeg (rA M 221) f)) := by
  have key : ∀ (z : Nat → Int32), (bd (F_X5_hasFallen (mz M z) (nI f)) fun r13 => (if ¬ r13 = 0 then (some ((0 : Int32), mz M z)) else (bd (F_X5_has (mz M z) (nI f) (0 : Int32)) fun r16 => (if ¬ r16 = 0 then (some ((0 : Int32), mz M z)) else (some ((1 : Int32), mz M z)))))) = some ((if zo z f 2 = 0 then 0 else if 0 < zo z f 11 then 0 else 1), mz M z) := by
    intro z
    rw [fallen_eq hf, bd_s, mz_z]
    by_cases h1 : zo z f 2 = 0
    · rw [if_pos h1, if_pos (by decide), if_pos h1]
    · rw [if_neg h1, if_neg (by decide), if_neg h1, has_l hf (by decide), bd_s, mz_z]
      by_cases h2 : 0 < zo z f (11 + 0)
      · rw [if_pos h2, if_pos (by decide), if_pos h2]
      · rw [if_neg h2, if_neg (by decide), if_neg h2]
  rw [F_X5_beginTurn, gd2, nm_k, gd5, gd5, nm_k, tn2, tn5]
  simp only [wA_z, mz_mz, mz_z]
  rw [upd_n (by decide), lose_eq hf, bd_s, mz_mz, mz_z, has_l hf (by decide), bd_s, nm_k, mz_z, zb1n (by decide) (by decide)]
  by_cases h3 : 0 < zo (rA M 221) f 14
  · rw [if_pos h3, if_neg (by decide), of_l hf (by decide), bd_s, nm_k, mz_z, zb1n (by decide) (by decide)]
    have e : zbeg (rA M 221) f = zl (zlose (upd (upd (rA M 221) 2 (nI f)) 5 (rA M 221 5 + 1)) f) f 2 (if 2 ≤ zo (rA M 221) f 2 then zo (rA M 221) f 2 - 2 else 0) := by unfold zbeg; rw [if_pos h3]
    by_cases h4 : 2 ≤ zo (rA M 221) f 2
    · rw [if_pos h4, bd_s]
      dsimp only
      rw [lay_l hf (by decide), bd_s, mz_mz, mz_z, key, e, if_pos h4]
    · rw [if_neg h4]
      dsimp only
      rw [lay_l hf (by decide), bd_s, mz_mz, mz_z, key, e, if_neg h4]
  · rw [if_neg h3, if_pos rfl]
    have e : zbeg (rA M 221) f = zlose (upd (upd (rA M 221) 2 (nI f)) 5 (rA M 221 5 + 1)) f := by unfold zbeg; rw [if_neg h3]
    dsimp only
    rw [key, e]
theorem zbeg_o {z : Nat → Int32} {f f' w : Nat} (hw : w < 17) : zo (zbeg z f) f' w = if f' = f ∧ 7 ≤ w ∧ w ≤ 10 then -1 else if f' = f ∧ w = 2 ∧ 0 < zo z f 14 then (if 2 ≤ zo z f 2 then zo z f 2 - 2 else 0) else zo z f' w := by
  unfold zbeg
  by_cases h3 : 0 < zo z f 14
  · rw [if_pos h3, zo_zl (by decide) hw, zb1 hw]
    by_cases h : f' = f ∧ w = 2
    · rw [if_pos h, if_neg (show ¬ (f' = f ∧ 7 ≤ w ∧ w ≤ 10) by omega), if_pos (show f' = f ∧ w = 2 ∧ 0 < zo z f 14 from ⟨h.1, h.2, h3⟩)]
    · rw [if_neg h, if_neg (show ¬ (f' = f ∧ w = 2 ∧ 0 < zo z f 14) from fun q => h ⟨q.1, q.2.1⟩)]
  · rw [if_neg h3, zb1 hw, if_neg (show ¬ (f' = f ∧ w = 2 ∧ 0 < zo z f 14) from fun q => h3 q.2.2)]
theorem zbeg_lo {z : Nat → Int32} {f i : Nat} (h : i < 16) : zbeg z f i = if i = 5 then z 5 + 1 else if i = 2 then nI f else z i := by
  have e : zlose (upd (upd z 2 (nI f)) 5 (z 5 + 1)) f i = if i = 5 then z 5 + 1 else if i = 2 then nI f else z i := by
    rw [zlose_lo h]
    rfl
  unfold zbeg
  split
  · rw [zl_lo h, e]
  · exact e
theorem Z0_beg {z : Nat → Int32} {f : Nat} (hz : Z0 z) : Z0 (zbeg z f) ∧ zn (zbeg z f) = zn z ∧ ∀ i, i < zn z → zrow (zbeg z f) i = zrow z i := Z0_of hz (fun i hi h1 h2 h3 h4 h5 => by rw [zbeg_lo hi, if_neg h5, if_neg h2])
theorem Z0_pass {z : Nat → Int32} {f c : Nat} (hz : Z0 z) : Z0 (zpass z f c) ∧ zn (zpass z f c) = zn z ∧ ∀ i, i < zn z → zrow (zpass z f c) i = zrow z i := Z0_of hz (fun i hi _ _ _ _ _ => zpass_lo hi c)
theorem Z0_del {z : Nat → Int32} {m : Nat} (hz : Z0 z) : Z0 (zdel z m) ∧ zn (zdel z m) = zn z ∧ ∀ i, i < zn z → zrow (zdel z m) i = zrow z i := Z0_of hz (fun i hi _ _ _ _ _ => zdel_lo hi m)
