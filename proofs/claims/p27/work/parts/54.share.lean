/-! the share of the life: a double; its bits in both ways -/
theorem near_ge {N D M : Nat} (hD : 0 < D) (h : M * D ≤ N) : M ≤ FP.Core.nearest N D := by
  have h1 : M ≤ N / D := (Nat.le_div_iff_mul_le hD).mpr h
  unfold FP.Core.nearest
  split
  · exact h1
  split
  · omega
  · omega
theorem near_le {N D M : Nat} (hD : 0 < D) (h : N ≤ M * D) : FP.Core.nearest N D ≤ M := by
  have h1 : N / D ≤ M := Nat.div_le_of_le_mul (by rw [Nat.mul_comm]; exact h)
  have hm := Nat.div_add_mod N D
  unfold FP.Core.nearest
  by_cases e : N / D = M
  · have h0 : N % D = 0 := by
      rw [e, Nat.mul_comm] at hm
      omega
    rw [h0, if_pos (by omega)]
    exact h1
  · split
    · exact h1
    split
    · omega
    · have : N / D % 2 < 2 := Nat.mod_lt _ (by decide)
      omega
theorem log_52 {T : Nat} (hT : T < 4503599627370496) : (4503599627370496 + T).log2 = 52 := by
  have h0 : 4503599627370496 + T ≠ 0 := by omega
  have a := (Nat.le_log2 h0 (k := 52)).mpr (by omega)
  have b := (Nat.log2_lt h0 (k := 53)).mpr (by omega)
  omega
theorem i2d_n {n L : Nat} (h0 : 2 ^ L ≤ n) (hn : n < 2 ^ (L + 1)) (hL : L ≤ 11) : FP.Core.decode FP.Core.b64 (FP.i2d (nI n)).toNat = .fin false (n * 2 ^ (52 - L)) ((L : Int) - 52) := by
  have h12 : n < 2 ^ 12 := Nat.lt_of_lt_of_le hn (Nat.pow_le_pow_right (by decide) (by omega))
  obtain ⟨T, hT, e⟩ := norm_lt h0 hn (by omega)
  have e1 : FP.i2d (nI n) = flb (L + 1023) T := by
    show UInt64.ofNat (FP.Core.encode FP.Core.b64 (FP.Core.round FP.Core.b64 (FP.Core.ofInt (nI n).toInt))) = _
    rw [nI_toInt (by omega)]
    unfold FP.Core.ofInt
    rw [decide_eq_false (show ¬ ((n : Int) < 0) by omega)]
    show UInt64.ofNat (FP.Core.encode FP.Core.b64 (FP.Core.roundRatio FP.Core.b64 false (n : Int).natAbs 1 0)) = _
    rw [Int.natAbs_natCast, rnd_lt h0 hn (by omega) (by omega) (by omega), e, show (0 : Int) + L - 52 = ((L + 1023 : Nat) : Int) - 1075 by omega, enc_fin (by omega) hT]
    rfl
  rw [e1, flb_dec (by omega) (by omega) hT, e, show ((L + 1023 : Nat) : Int) - 1075 = (L : Int) - 52 by omega]
theorem rr_ge {TA TB : Nat} {e : Int} (hA : TA < 4503599627370496) (hB : TB < 4503599627370496) (h : TB ≤ TA) (h1 : -1000 ≤ e) : ∃ c, FP.Core.roundRatio FP.Core.b64 false (4503599627370496 + TA) (4503599627370496 + TB) e = FP.Core.settle FP.Core.b64 false c (e - 52) ∧ 4503599627370496 ≤ c ∧ c ≤ 9007199254740992 ∧ (TA = TB → c = 4503599627370496) := by
  have hl : FP.Core.leading (4503599627370496 + TA) (4503599627370496 + TB) = 0 := by
    unfold FP.Core.leading
    dsimp only
    rw [log_52 hA, log_52 hB]
    simp
    omega
  have hq : FP.Core.quantum FP.Core.b64 (4503599627370496 + TA) (4503599627370496 + TB) e = e - 52 := by
    unfold FP.Core.quantum
    rw [hl, b_qmin, b_p]
    omega
  refine ⟨FP.Core.nearest ((4503599627370496 + TA) * 4503599627370496) (4503599627370496 + TB), ?_, near_ge (by omega) (by omega), near_le (by omega) (by omega), fun q => ?_⟩
  · unfold FP.Core.roundRatio
    rw [if_neg (by omega), hq]
    unfold FP.Core.roundAt FP.Core.unitsNum FP.Core.unitsDen
    rw [show (e - (e - 52)).toNat = 52 by omega, show (e - 52 - e).toNat = 0 by omega, Nat.pow_zero, Nat.mul_one, show (2 : Nat) ^ 52 = 4503599627370496 by decide]
  · rw [q, Nat.mul_comm]
    exact near_p (by omega)
theorem rr_lt {TA TB : Nat} {e : Int} (hA : TA < 4503599627370496) (hB : TB < 4503599627370496) (h : TA < TB) (h1 : -1000 ≤ e) : ∃ c, FP.Core.roundRatio FP.Core.b64 false (4503599627370496 + TA) (4503599627370496 + TB) e = FP.Core.settle FP.Core.b64 false c (e - 53) ∧ 4503599627370496 ≤ c ∧ c ≤ 9007199254740992 := by
  have hl : FP.Core.leading (4503599627370496 + TA) (4503599627370496 + TB) = -1 := by
    unfold FP.Core.leading
    dsimp only
    rw [log_52 hA, log_52 hB]
    simp
    omega
  have hq : FP.Core.quantum FP.Core.b64 (4503599627370496 + TA) (4503599627370496 + TB) e = e - 53 := by
    unfold FP.Core.quantum
    rw [hl, b_qmin, b_p]
    omega
  refine ⟨FP.Core.nearest ((4503599627370496 + TA) * 9007199254740992) (4503599627370496 + TB), ?_, near_ge (by omega) (by omega), near_le (by omega) (by omega)⟩
  unfold FP.Core.roundRatio
  rw [if_neg (by omega), hq]
  unfold FP.Core.roundAt FP.Core.unitsNum FP.Core.unitsDen
  rw [show (e - (e - 53)).toNat = 53 by omega, show (e - 53 - e).toNat = 0 by omega, Nat.pow_zero, Nat.mul_one, show (2 : Nat) ^ 53 = 9007199254740992 by decide]
theorem settle_flb {c E : Nat} {q : Int} (h1 : 4503599627370496 ≤ c) (h2 : c ≤ 9007199254740992) (hE : 1 ≤ E) (hE2 : E ≤ 1500) (hq : q = (E : Int) - 1075) : ∃ E' T, T < 4503599627370496 ∧ ((E' = E ∧ c < 9007199254740992) ∨ (E' = E + 1 ∧ c = 9007199254740992)) ∧ UInt64.ofNat (FP.Core.encode FP.Core.b64 (FP.Core.settle FP.Core.b64 false c q)) = flb E' T := by
  by_cases h : c < 9007199254740992
  · refine ⟨E, c - 4503599627370496, by omega, Or.inl ⟨rfl, h⟩, ?_⟩
    rw [settle_n h (by omega), hq, show c = 4503599627370496 + (c - 4503599627370496) by omega, enc_fin hE (by omega), show 4503599627370496 + (c - 4503599627370496) - 4503599627370496 = c - 4503599627370496 by omega]
    rfl
  · refine ⟨E + 1, 0, by decide, Or.inr ⟨rfl, by omega⟩, ?_⟩
    have e : FP.Core.settle FP.Core.b64 false c q = .fin false (4503599627370496 + 0) (((E + 1 : Nat) : Int) - 1075) := by
      unfold FP.Core.settle FP.Core.bound
      rw [b_p, if_neg (show ¬ c < 2 ^ 53 by omega), b_qmax, if_pos (by omega), b_tails, hq, show (E : Int) - 1075 + 1 = ((E + 1 : Nat) : Int) - 1075 by omega]
    rw [e, enc_fin (by omega) (by decide)]
    rfl
theorem share_val {a n : Nat} (ha : 0 < a) (han : a ≤ n) (hn : n ≤ 2000) : ∃ E T, 1000 ≤ E ∧ E ≤ 1023 ∧ T < 4503599627370496 ∧ FP.ddiv (FP.i2d (nI a)) (FP.i2d (nI n)) = flb E T := by
  obtain ⟨La, hLa⟩ : ∃ L, a.log2 = L := ⟨_, rfl⟩
  obtain ⟨Ln, hLn⟩ : ∃ L, n.log2 = L := ⟨_, rfl⟩
  have a0 : 2 ^ La ≤ a := by rw [← hLa]; exact Nat.log2_self_le (by omega)
  have a1 : a < 2 ^ (La + 1) := by rw [← hLa]; exact Nat.lt_log2_self
  have n0 : 2 ^ Ln ≤ n := by rw [← hLn]; exact Nat.log2_self_le (by omega)
  have n1 : n < 2 ^ (Ln + 1) := by rw [← hLn]; exact Nat.lt_log2_self
  have hle : La ≤ Ln := Nat.le_of_not_lt (fun q => by
    have : 2 ^ (Ln + 1) ≤ 2 ^ La := Nat.pow_le_pow_right (by decide) (by omega)
    omega)
  have h10 : Ln ≤ 10 := Nat.le_of_not_lt (fun q => by
    have : 2 ^ 11 ≤ 2 ^ Ln := Nat.pow_le_pow_right (by decide) (by omega)
    omega)
  obtain ⟨TA, hTA, eA⟩ := norm_lt a0 a1 (by omega)
  obtain ⟨TB, hTB, eB⟩ := norm_lt n0 n1 (by omega)
  have dA := i2d_n a0 a1 (by omega)
  have dB := i2d_n n0 n1 (by omega)
  rw [eA] at dA
  rw [eB] at dB
  have key : FP.ddiv (FP.i2d (nI a)) (FP.i2d (nI n)) = UInt64.ofNat (FP.Core.encode FP.Core.b64 (FP.Core.roundRatio FP.Core.b64 false (4503599627370496 + TA) (4503599627370496 + TB) ((La : Int) - 52 - ((Ln : Int) - 52)))) := by
    show UInt64.ofNat (FP.Core.div FP.Core.b64 (FP.i2d (nI a)).toNat (FP.i2d (nI n)).toNat) = _
    unfold FP.Core.div
    rw [dA, dB]
    unfold FP.Core.quotient
    dsimp only
    rw [if_neg (by omega)]
    rfl
  rw [key]
  by_cases h : TB ≤ TA
  · obtain ⟨c, r, c1, c2, c3⟩ := rr_ge (e := (La : Int) - 52 - ((Ln : Int) - 52)) hTA hTB h (by omega)
    obtain ⟨E', T, hT, hE', r2⟩ := settle_flb (E := 1023 + La - Ln) (q := (La : Int) - 52 - ((Ln : Int) - 52) - 52) c1 c2 (by omega) (by omega) (by omega)
    rw [r, r2]
    refine ⟨E', T, by omega, ?_, hT, rfl⟩
    rcases hE' with ⟨e, _⟩ | ⟨e, e2⟩
    · omega
    · by_cases q : La = Ln
      · exfalso
        subst q
        have h3 : a * 2 ^ (52 - La) ≤ n * 2 ^ (52 - La) := Nat.mul_le_mul_right _ han
        have := c3 (by omega)
        omega
      · omega
  · obtain ⟨c, r, c1, c2⟩ := rr_lt (e := (La : Int) - 52 - ((Ln : Int) - 52)) hTA hTB (by omega) (by omega)
    obtain ⟨E', T, hT, hE', r2⟩ := settle_flb (E := 1022 + La - Ln) (q := (La : Int) - 52 - ((Ln : Int) - 52) - 53) c1 c2 (by omega) (by omega) (by omega)
    rw [r, r2]
    exact ⟨E', T, by omega, by omega, hT, rfl⟩
theorem share_0 {n : Nat} (h0 : 0 < n) (hn : n ≤ 2000) : FP.ddiv (FP.i2d (nI 0)) (FP.i2d (nI n)) = 0 := by
  obtain ⟨Ln, hLn⟩ : ∃ L, n.log2 = L := ⟨_, rfl⟩
  have n0 : 2 ^ Ln ≤ n := by rw [← hLn]; exact Nat.log2_self_le (by omega)
  have n1 : n < 2 ^ (Ln + 1) := by rw [← hLn]; exact Nat.lt_log2_self
  have h10 : Ln ≤ 10 := Nat.le_of_not_lt (fun q => by
    have : 2 ^ 11 ≤ 2 ^ Ln := Nat.pow_le_pow_right (by decide) (by omega)
    omega)
  obtain ⟨TB, hTB, eB⟩ := norm_lt n0 n1 (by omega)
  have dB := i2d_n n0 n1 (by omega)
  rw [eB] at dB
  have d0 : FP.Core.decode FP.Core.b64 (FP.i2d (nI 0)).toNat = .fin false 0 (-1074) := by decide +kernel
  show UInt64.ofNat (FP.Core.div FP.Core.b64 (FP.i2d (nI 0)).toNat (FP.i2d (nI n)).toNat) = _
  unfold FP.Core.div
  rw [dB, d0]
  unfold FP.Core.quotient
  dsimp only
  rw [if_neg (by omega)]
  unfold FP.Core.roundRatio
  rw [if_pos rfl]
  decide +kernel
def zall2 (z : Nat → Int32) : Nat := zlf z 0 (zn z) + zlf z 1 (zn z)
def zshare (z : Nat → Int32) : UInt64 := if zall2 z = 0 then 4602678819172646912 else FP.ddiv (FP.i2d (nI (zlf z 0 (zn z)))) (FP.i2d (nI (zall2 z)))
theorem zall2_le {z : Nat → Int32} (hz : ZW z) : zall2 z ≤ 2000 := by
  have hb := hz.1.2.1
  have h1 := zlf_le (s := 0) hz (zn z) (Nat.le_refl _)
  have h2 := zlf_le (s := 1) hz (zn z) (Nat.le_refl _)
  unfold zall2
  omega
theorem share_form {z : Nat → Int32} (hz : ZW z) : zshare z = 0 ∨ ∃ E T, 1000 ≤ E ∧ E ≤ 1023 ∧ T < 4503599627370496 ∧ zshare z = flb E T := by
  have h := zall2_le hz
  unfold zshare
  by_cases h0 : zall2 z = 0
  · rw [if_pos h0]
    exact Or.inr ⟨1022, 0, by decide, by decide, by decide, by decide +kernel⟩
  · rw [if_neg h0]
    by_cases h1 : zlf z 0 (zn z) = 0
    · left
      rw [h1]
      exact share_0 (by omega) h
    · right
      exact share_val (by omega) (by unfold zall2; omega) h
theorem share_nn {z : Nat → Int32} (hz : ZW z) : nnb (zshare z) = true := by
  rcases share_form hz with h | ⟨E, T, h1, h2, h3, h⟩
  · rw [h]; decide
  · rw [h]; exact nnb_flb (by omega) h3
theorem share_cmp {z : Nat → Int32} (hz : ZW z) : FP.dcmp (zshare z) (zshare z) = some .eq := by
  rcases share_form hz with h | ⟨E, T, h1, h2, h3, h⟩
  · rw [h]; decide +kernel
  · rw [h]
    show FP.Core.order (FP.Core.decode FP.Core.b64 (flb E T).toNat) (FP.Core.decode FP.Core.b64 (flb E T).toNat) = some .eq
    rw [flb_dec (by omega) (by omega) h3]
    unfold FP.Core.order
    simp
/-- both ways to the bits -/
def zbt (T : Nat) : Nat → Int64 → Int64
  | 0, e => (e <<< (Int32.toInt64 (52 : Int32) &&& 63)) + Int64.ofInt (T : Int)
  | d + 1, e => zbt T d (e - 1)
/-- how the sides stand -/
theorem cshare_l {M : MS} {z : Nat → Int32} (h : CZ M 0 z) (hz : ZW z) : F_X4_standing M = some (zshare z) := by
  have h2 := zall2_le hz
  have hn := share_nn hz
  unfold zshare at hn ⊢
  rw [F_X4_standing, clf_eq hz h, bd_s, clf_eq hz h, bd_s, nm_k, nI_add]
  by_cases h0 : zall2 z = 0
  · rw [if_pos h0]
    unfold zall2 at h0
    rw [h0, if_neg (by decide)]
  · rw [if_neg h0] at hn ⊢
    unfold zall2 at h0 hn h2 ⊢
    rw [if_pos (show (0 : Int32) < nI _ from nI_lt (a := 0) (by omega) (by omega)), gdb_t hn]
