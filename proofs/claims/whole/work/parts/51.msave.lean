/-! the model saves, undoes, puts aside -/
theorem ix_s {m i : Nat} : nI m * (186 : Int32) + nI i = nI (m * 186 + i) := by rw [nI_lit 186, pk_mul, nI_add]
def cpw (w z : Nat → Int32) (m i : Nat) : Nat → Int32 := fun j => if 186 * m ≤ j ∧ j < 186 * m + i then z (j - 186 * m) else w j
theorem cpw_up {w z : Nat → Int32} {m i : Nat} : upd (cpw w z m i) (m * 186 + i) (z i) = cpw w z m (i + 1) := by
  funext j
  unfold upd cpw
  by_cases e : j = m * 186 + i
  · rw [if_pos e, if_pos (by omega), show j - 186 * m = i by omega]
  · rw [if_neg e]
    by_cases q : 186 * m ≤ j ∧ j < 186 * m + i
    · rw [if_pos q, if_pos (by omega)]
    · rw [if_neg q, if_neg (by omega)]
theorem msv_l {M : MS} {z w : Nat → Int32} {m : Nat} (hz : rA M 221 = z) (hm : rF M 83 220 = nI m) (h6 : m < 6) : ∀ d i k, i + d = 186 → d < k → F_X5_save_l52 k (nI i) (pr M 222 (cpw w z m i)) = some (wF (pr M 222 (cpw w z m 186)) 83 220 (nI (m + 1))) := by
  intro d
  induction d with
  | zero =>
    intro i k hi hk
    obtain ⟨k, rfl⟩ : ∃ q, k = q + 1 := ⟨k - 1, by omega⟩
    have e : i = 186 := by omega
    subst e
    rw [F_X5_save_l52, if_pos (by decide), nm_k, pr_F, hm, nI_1]
  | succ d ih =>
    intro i k hi hk
    obtain ⟨k, rfl⟩ : ∃ q, k = q + 1 := ⟨k - 1, by omega⟩
    rw [F_X5_save_l52, if_neg (show ¬ (186 : Int32) ≤ nI i from nI_ge (b := 186) (by omega) (by decide)), gdb_t (inb_nI (by omega) (by decide)), pr_F, hm, ix_s, gdb_t (inb_nI (by omega) (by decide)), nI_clamp (by omega), nI_clamp (by omega), nm_k, nm_k, nI_1, pr_An (by decide), hz, wA_pr, pr_pr, pr_A, cpw_up]
    exact ih (i + 1) k (by omega) (by omega)
def shw (w : Nat → Int32) (i : Nat) : Nat → Int32 := fun j => if j < i then w (j + 186) else w j
theorem shw_up {w : Nat → Int32} {i : Nat} : upd (shw w i) i (shw w i (i + 186)) = shw w (i + 1) := by
  funext j
  unfold upd shw
  rw [if_neg (show ¬ i + 186 < i by omega)]
  by_cases e : j = i
  · rw [if_pos e, if_pos (by omega), e]
  · rw [if_neg e]
    by_cases q : j < i
    · rw [if_pos q, if_pos (by omega)]
    · rw [if_neg q, if_neg (by omega)]
theorem msh_l {M : MS} {w : Nat → Int32} {K : MS → Option MS} (hm : rF M 83 220 = 6) : ∀ d i k, i + d = 930 → d < k → F_X5_save_l11 K k (nI i) (pr M 222 (shw w i)) = K (wF (pr M 222 (shw w 930)) 83 220 5) := by
  intro d
  induction d with
  | zero =>
    intro i k hi hk
    obtain ⟨k, rfl⟩ : ∃ q, k = q + 1 := ⟨k - 1, by omega⟩
    have e : i = 930 := by omega
    subst e
    rw [F_X5_save_l11, if_pos (by decide), nm_k, pr_F, hm]
    rfl
  | succ d ih =>
    intro i k hi hk
    obtain ⟨k, rfl⟩ : ∃ q, k = q + 1 := ⟨k - 1, by omega⟩
    rw [F_X5_save_l11, if_neg (show ¬ (930 : Int32) ≤ nI i from nI_ge (b := 930) (by omega) (by decide)), nI_lit 186, nI_add, gdb_t (inb_nI (by omega) (by decide)), gdb_t (inb_nI (by omega) (by decide)), nI_clamp (by omega), nI_clamp (by omega), nm_k, nm_k, nI_1, wA_pr, pr_pr, pr_A, shw_up]
    exact ih (i + 1) k (by omega) (by omega)
theorem msave1 {M : MS} {z : Nat → Int32} {m : Nat} {sv : Nat → Nat → Int32} {t : Nat} {b : Nat → Int32} (h : MI M z m sv t b) (h6 : m < 6) : ∃ M', F_X5_save_l52 FU 0 M = some M' ∧ MI M' z (m + 1) (fun i => if i = m then z else sv i) t b ∧ CPart M M' ∧ (∀ c, c ≠ 83 → rF M' c 220 = rF M c 220) := by
  obtain ⟨a, b1, c1, d, e⟩ := h
  have h1 := msv_l (w := rA M 222) a b1 h6 186 0 FU (by omega) (by rw [FU_s]; omega)
  have e0 : cpw (rA M 222) z m 0 = rA M 222 := by funext j; unfold cpw; rw [if_neg (by omega)]
  rw [e0, pr_self] at h1
  refine ⟨_, h1, ⟨?_, rF_self, fun i hi j hj => ?_, ?_, fun i hi => ?_⟩, CPart_trans (CPart_pr (by decide)) CPart_80, fun c hc => ?_⟩
  · rw [rA_wF, pr_An (by decide), a]
  · show rA (pr M 222 (cpw (rA M 222) z m 186)) 222 (186 * i + j) = (if i = m then z else sv i) j
    rw [pr_A]
    unfold cpw
    by_cases q : i = m
    · rw [if_pos (by omega), if_pos q, show 186 * i + j - 186 * m = j by omega]
    · rw [if_neg (by omega), if_neg q, c1 i (by omega) j hj]
  · rw [rF_wF, if_neg (by omega), pr_F, d]
  · rw [rA_wF, pr_An (by decide), e i hi]
  · rw [rF_wF, if_neg (fun q => hc q.1), pr_F]
theorem msave_eq {M : MS} {z : Nat → Int32} {m : Nat} {sv : Nat → Nat → Int32} {t : Nat} {b : Nat → Int32} (h : MI M z m sv t b) (hm6 : m ≤ 6) : ∃ M', F_X5_save M = some M' ∧ MI M' z (svM m) (svS sv m z) t b ∧ CPart M M' ∧ (∀ c, c ≠ 83 → rF M' c 220 = rF M c 220) := by
  rw [F_X5_save, nm_k]
  unfold svM svS
  by_cases h6 : m < 6
  · rw [if_pos (show ¬ rF M 83 220 = 6 by rw [h.2.1]; exact fun q => absurd ((nI_eq (a := m) (b := 6) (by omega) (by decide)).mp q) (by omega)), if_pos h6, if_pos h6]
    exact msave1 h h6
  · have e6 : m = 6 := by omega
    subst e6
    obtain ⟨a, b1, c1, d, e⟩ := h
    have b1' : rF M 83 220 = 6 := b1
    have h1 := msh_l (w := rA M 222) (K := fun M1 => F_X5_save_l52 FU 0 M1) b1' 930 0 FU (by omega) (by rw [FU_s]; omega)
    have e0 : shw (rA M 222) 0 = rA M 222 := by funext j; unfold shw; rw [if_neg (by omega)]
    rw [e0, pr_self] at h1
    rw [if_neg (fun q => q b1'), if_neg h6, if_neg h6]
    have h2 : MI (wF (pr M 222 (shw (rA M 222) 930)) 83 220 5) z 5 (fun i => sv (i + 1)) t b := by
      refine ⟨?_, rF_self, fun i hi j hj => ?_, ?_, fun i hi => ?_⟩
      · rw [rA_wF, pr_An (by decide), a]
      · rw [rA_wF, pr_A]
        unfold shw
        rw [if_pos (by omega), show 186 * i + j + 186 = 186 * (i + 1) + j by omega, c1 (i + 1) (by omega) j hj]
      · rw [rF_wF, if_neg (by omega), pr_F, d]
      · rw [rA_wF, pr_An (by decide), e i hi]
    obtain ⟨M', g1, g2, g3, g4⟩ := msave1 h2 (by decide)
    refine ⟨M', h1.trans g1, g2, CPart_trans (CPart_trans (CPart_pr (by decide)) CPart_80) g3, fun c hc => ?_⟩
    rw [g4 c hc, rF_wF, if_neg (fun q => hc q.1), pr_F]
/-- a row of 186 copied -/
def cpz (y z : Nat → Int32) (i : Nat) : Nat → Int32 := fun j => if j < i then z j else y j
theorem cpz_up {y z : Nat → Int32} {i : Nat} : upd (cpz y z i) i (z i) = cpz y z (i + 1) := by
  funext j
  unfold upd cpz
  by_cases e : j = i
  · rw [if_pos e, if_pos (by omega), e]
  · rw [if_neg e]
    by_cases q : j < i
    · rw [if_pos q, if_pos (by omega)]
    · rw [if_neg q, if_neg (by omega)]
theorem mund_l {M : MS} {y s : Nat → Int32} {m : Nat} (hm : rF M 83 220 = nI m) (h6 : m < 6) (hs : ∀ j, j < 186 → rA M 222 (186 * m + j) = s j) : ∀ d i k, i + d = 186 → d < k → F_X5_undo_l37 k (nI i) (mz M (cpz y s i)) = some (nI m, mz M (cpz y s 186)) := by
  intro d
  induction d with
  | zero =>
    intro i k hi hk
    obtain ⟨k, rfl⟩ : ∃ q, k = q + 1 := ⟨k - 1, by omega⟩
    have e : i = 186 := by omega
    subst e
    rw [F_X5_undo_l37, if_pos (by decide), mz_F, hm]
  | succ d ih =>
    intro i k hi hk
    obtain ⟨k, rfl⟩ : ∃ q, k = q + 1 := ⟨k - 1, by omega⟩
    rw [F_X5_undo_l37, if_neg (show ¬ (186 : Int32) ≤ nI i from nI_ge (b := 186) (by omega) (by decide)), mz_F, hm, ix_s, gdb_t (inb_nI (by omega) (by decide)), gdb_t (inb_nI (by omega) (by decide)), nI_clamp (by omega), nI_clamp (by omega), nm_k, nm_k, nI_1, mz_ne (by decide), show m * 186 + i = 186 * m + i by omega, hs i (by omega), wA_z, mz_mz, mz_z, cpz_up]
    exact ih (i + 1) k (by omega) (by omega)
theorem cpz_all {y s : Nat → Int32} (hy : ∀ j, 186 ≤ j → y j = 0) (hs : ∀ j, 186 ≤ j → s j = 0) : cpz y s 186 = s := by
  funext j
  unfold cpz
  by_cases q : j < 186
  · rw [if_pos q]
  · rw [if_neg q, hy j (by omega), hs j (by omega)]
theorem mput_l {M : MS} {y z : Nat → Int32} (hz : rA M 221 = z) : ∀ d i k, i + d = 186 → d < k → F_X5_putAside_l2 k (nI i) (pr M 223 (cpz y z i)) = some (pr M 223 (cpz y z 186)) := by
  intro d
  induction d with
  | zero =>
    intro i k hi hk
    obtain ⟨k, rfl⟩ : ∃ q, k = q + 1 := ⟨k - 1, by omega⟩
    have e : i = 186 := by omega
    subst e
    rw [F_X5_putAside_l2, if_pos (by decide)]
  | succ d ih =>
    intro i k hi hk
    obtain ⟨k, rfl⟩ : ∃ q, k = q + 1 := ⟨k - 1, by omega⟩
    rw [F_X5_putAside_l2, if_neg (show ¬ (186 : Int32) ≤ nI i from nI_ge (b := 186) (by omega) (by decide)), gdb_t (inb_nI (by omega) (by decide)), gdb_t (inb_nI (by omega) (by decide)), nI_clamp (by omega), nm_k, nm_k, nI_1, pr_An (by decide), hz, wA_pr, pr_pr, pr_A, cpz_up]
    exact ih (i + 1) k (by omega) (by omega)
theorem mput_eq {M : MS} : ∃ M', F_X5_putAside M = some M' ∧ (∀ c v, rF M' c v = rF M c v) ∧ (∀ v, v ≠ 223 → rA M' v = rA M v) ∧ M'.2.2 = M.2.2 ∧ (∀ j, j < 186 → rA M' 223 j = rA M 221 j) := by
  have h := mput_l (M := M) (y := rA M 223) rfl 186 0 FU (by omega) (by rw [FU_s]; omega)
  have e0 : cpz (rA M 223) (rA M 221) 0 = rA M 223 := by funext j; unfold cpz; rw [if_neg (by omega)]
  rw [e0, pr_self] at h
  refine ⟨_, h, fun _ _ => rfl, fun v h2 => pr_An h2, rfl, fun j hj => ?_⟩
  rw [pr_A]
  unfold cpz
  rw [if_pos hj]
theorem mbrg_l {M : MS} {y s : Nat → Int32} (hs : ∀ j, j < 186 → rA M 223 j = s j) : ∀ d i k, i + d = 186 → d < k → F_X5_bringBack_l2 k (nI i) (mz M (cpz y s i)) = some (mz M (cpz y s 186)) := by
  intro d
  induction d with
  | zero =>
    intro i k hi hk
    obtain ⟨k, rfl⟩ : ∃ q, k = q + 1 := ⟨k - 1, by omega⟩
    have e : i = 186 := by omega
    subst e
    rw [F_X5_bringBack_l2, if_pos (by decide)]
  | succ d ih =>
    intro i k hi hk
    obtain ⟨k, rfl⟩ : ∃ q, k = q + 1 := ⟨k - 1, by omega⟩
    rw [F_X5_bringBack_l2, if_neg (show ¬ (186 : Int32) ≤ nI i from nI_ge (b := 186) (by omega) (by decide)), gdb_t (inb_nI (by omega) (by decide)), gdb_t (inb_nI (by omega) (by decide)), nI_clamp (by omega), nm_k, nm_k, nI_1, mz_ne (by decide), hs i (by omega), wA_z, mz_mz, mz_z, cpz_up]
    exact ih (i + 1) k (by omega) (by omega)
theorem mbrg_eq {M : MS} {s : Nat → Int32} (hs : ∀ j, j < 186 → rA M 223 j = s j) (h0 : ∀ j, 186 ≤ j → s j = 0) (h1 : ∀ j, 186 ≤ j → rA M 221 j = 0) : F_X5_bringBack M = some (mz M s) := by
  have h := mbrg_l (M := M) (y := rA M 221) hs 186 0 FU (by omega) (by rw [FU_s]; omega)
  have e0 : cpz (rA M 221) s 0 = rA M 221 := by funext j; unfold cpz; rw [if_neg (by omega)]
  rw [e0, mz_self, cpz_all h1 h0] at h
  exact h
