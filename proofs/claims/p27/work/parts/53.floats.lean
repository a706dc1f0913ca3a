/-! doubles: just what the share needs -/
theorem b_tails : FP.Core.b64.tails = 4503599627370496 := by decide
theorem b_exps : FP.Core.b64.exps = 2048 := by decide
theorem b_qmin : FP.Core.b64.qmin = -1074 := by decide
theorem b_qmax : FP.Core.b64.qmax = 971 := by decide
theorem b_p : FP.Core.b64.p = 53 := rfl
/-- the bits with exponent E and tail T -/
def flb (E T : Nat) : UInt64 := UInt64.ofNat (E * 4503599627370496 + T)
theorem flb_n {E T : Nat} (hE : E ≤ 2046) (hT : T < 4503599627370496) : (flb E T).toNat = E * 4503599627370496 + T := by
  unfold flb
  rw [UInt64.toNat_ofNat']
  exact Nat.mod_eq_of_lt (by omega)
theorem flb_dec {E T : Nat} (h1 : 1 ≤ E) (hE : E ≤ 2046) (hT : T < 4503599627370496) : FP.Core.decode FP.Core.b64 (flb E T).toNat = .fin false (4503599627370496 + T) ((E : Int) - 1075) := by
  have e1 : FP.Core.fieldE FP.Core.b64 (flb E T).toNat = E := by unfold FP.Core.fieldE; rw [flb_n hE hT, b_tails, b_exps]; omega
  have e2 : FP.Core.fieldT FP.Core.b64 (flb E T).toNat = T := by unfold FP.Core.fieldT; rw [flb_n hE hT, b_tails]; omega
  have e3 : FP.Core.fieldS FP.Core.b64 (flb E T).toNat = false := by
    unfold FP.Core.fieldS
    rw [flb_n hE hT, b_tails, b_exps]
    have : (E * 4503599627370496 + T) / 4503599627370496 / 2048 % 2 = 0 := by omega
    rw [this]; rfl
  unfold FP.Core.decode
  rw [e1, e2, e3, b_exps, if_neg (by omega), if_neg (by omega), b_tails, b_qmin]
  congr 1
  omega
theorem enc_fin {E T : Nat} (h1 : 1 ≤ E) (hT : T < 4503599627370496) : FP.Core.encode FP.Core.b64 (.fin false (4503599627370496 + T) ((E : Int) - 1075)) = E * 4503599627370496 + T := by
  unfold FP.Core.encode
  dsimp only
  rw [b_tails, if_neg (by omega), b_qmin]
  unfold FP.Core.assemble
  rw [b_tails, b_exps]
  have e : ((E : Int) - 1075 - -1074).toNat + 1 = E := by omega
  rw [e]
  simp
theorem near_1 (n : Nat) : FP.Core.nearest n 1 = n := by
  unfold FP.Core.nearest
  rw [Nat.mod_one, if_pos (by omega), Nat.div_one]
theorem near_p {n k : Nat} (hk : 0 < k) : FP.Core.nearest (n * k) k = n := by
  unfold FP.Core.nearest
  rw [Nat.mul_mod_left, if_pos (by omega), Nat.mul_div_cancel n hk]
theorem lead_1 {n k : Nat} (h1 : 2 ^ k ≤ n) (h2 : n < 2 ^ (k + 1)) : FP.Core.leading n 1 = k := by
  have h0 : n ≠ 0 := fun e => by rw [e] at h1; have := Nat.two_pow_pos k; omega
  have hl : n.log2 = k := by
    have a := (Nat.le_log2 h0 (k := k)).mpr h1
    have b := (Nat.log2_lt h0 (k := k + 1)).mpr h2
    omega
  unfold FP.Core.leading
  have e1 : Nat.log2 1 = 0 := by decide
  dsimp only
  rw [hl, e1]
  have e2 : ((k : Int) - (0 : Nat)).toNat = k := by omega
  have e3 : (-((k : Int) - (0 : Nat))).toNat = 0 := by omega
  rw [e2, e3, if_pos (by simpa using h1)]
  omega
theorem settle_n {c : Nat} {q : Int} (hc : c < 9007199254740992) (hq : q ≤ 971) : FP.Core.settle FP.Core.b64 false c q = .fin false c q := by
  unfold FP.Core.settle FP.Core.bound
  rw [b_p, if_pos (show c < 2 ^ 53 by omega), b_qmax, if_pos hq]
theorem rnd_ge {T : Nat} {e : Int} (hT : T < 4503599627370496) (h1 : -1074 ≤ e + 52) (h2 : e + 52 ≤ 971) : FP.Core.roundRatio FP.Core.b64 false ((4503599627370496 + T) * 4503599627370496) 1 e = .fin false (4503599627370496 + T) (e + 52) := by
  have hl : FP.Core.leading ((4503599627370496 + T) * 4503599627370496) 1 = (104 : Nat) := lead_1 (by omega) (by omega)
  have hq : FP.Core.quantum FP.Core.b64 ((4503599627370496 + T) * 4503599627370496) 1 e = e + 52 := by
    unfold FP.Core.quantum
    rw [hl, b_qmin, b_p]
    omega
  unfold FP.Core.roundRatio
  rw [if_neg (by omega), hq]
  unfold FP.Core.roundAt FP.Core.unitsNum FP.Core.unitsDen
  have e1 : (e - (e + 52)).toNat = 0 := by omega
  have e2 : (e + 52 - e).toNat = 52 := by omega
  rw [e1, e2, Nat.pow_zero, Nat.mul_one, Nat.one_mul, show (2 : Nat) ^ 52 = 4503599627370496 by decide, near_p (by decide), settle_n (by omega) h2]
theorem rnd_lt {n L : Nat} {e : Int} (h0 : 2 ^ L ≤ n) (hn : n < 2 ^ (L + 1)) (hL : L ≤ 52) (h1 : -1074 ≤ e + L - 52) (h2 : e + L - 52 ≤ 971) : FP.Core.roundRatio FP.Core.b64 false n 1 e = .fin false (n * 2 ^ (52 - L)) (e + L - 52) := by
  have hl := lead_1 h0 hn
  have hpos : 0 < n := by have := Nat.two_pow_pos L; omega
  have hq : FP.Core.quantum FP.Core.b64 n 1 e = e + L - 52 := by
    unfold FP.Core.quantum
    rw [hl, b_qmin, b_p]
    omega
  unfold FP.Core.roundRatio
  rw [if_neg (by omega), hq]
  unfold FP.Core.roundAt FP.Core.unitsNum FP.Core.unitsDen
  have e1 : (e - (e + L - 52)).toNat = 52 - L := by omega
  have e2 : (e + L - 52 - e).toNat = 0 := by omega
  have hlt : n * 2 ^ (52 - L) < 9007199254740992 := by
    have := Nat.mul_lt_mul_of_pos_right hn (Nat.two_pow_pos (52 - L))
    rw [← Nat.pow_add, show L + 1 + (52 - L) = 53 by omega] at this
    omega
  rw [e1, e2, Nat.pow_zero, Nat.mul_one, near_1, settle_n hlt h2]
theorem norm_lt {n L : Nat} (h0 : 2 ^ L ≤ n) (hn : n < 2 ^ (L + 1)) (hL : L ≤ 52) : ∃ T, T < 4503599627370496 ∧ n * 2 ^ (52 - L) = 4503599627370496 + T := by
  have a := Nat.mul_le_mul_right (2 ^ (52 - L)) h0
  have b := Nat.mul_lt_mul_of_pos_right hn (Nat.two_pow_pos (52 - L))
  rw [← Nat.pow_add, show L + 1 + (52 - L) = 53 by omega] at b
  rw [← Nat.pow_add, show L + (52 - L) = 52 by omega] at a
  exact ⟨n * 2 ^ (52 - L) - 4503599627370496, by omega, by omega⟩
def c2 : UInt64 := 4611686018427387904
def c52 : UInt64 := 4841369599423283200
theorem d_1 : FP.Core.decode FP.Core.b64 FP.dconst1.toNat = .fin false 4503599627370496 (-52) := by decide +kernel
theorem d_2 : FP.Core.decode FP.Core.b64 (4611686018427387904 : UInt64).toNat = .fin false 4503599627370496 (-51) := by decide +kernel
theorem d_52 : FP.Core.decode FP.Core.b64 (4841369599423283200 : UInt64).toNat = .fin false 4503599627370496 0 := by decide +kernel
theorem d_0 : FP.Core.decode FP.Core.b64 FP.dconst0.toNat = .fin false 0 (-1074) := by decide +kernel
/-- doubled -/
theorem dbl {E T : Nat} (h1 : 1 ≤ E) (hE : E ≤ 2045) (hT : T < 4503599627370496) : FP.dmul (flb E T) (4611686018427387904 : UInt64) = flb (E + 1) T := by
  show UInt64.ofNat (FP.Core.mul FP.Core.b64 (flb E T).toNat (4611686018427387904 : UInt64).toNat) = _
  unfold FP.Core.mul
  rw [flb_dec h1 (by omega) hT, d_2]
  show UInt64.ofNat (FP.Core.encode FP.Core.b64 (FP.Core.roundRatio FP.Core.b64 false ((4503599627370496 + T) * 4503599627370496) 1 ((E : Int) - 1075 + -51))) = _
  rw [rnd_ge hT (by omega) (by omega), show (E : Int) - 1075 + -51 + 52 = ((E + 1 : Nat) : Int) - 1075 by omega, enc_fin (by omega) hT]
  rfl
/-- compared with 1 -/
theorem cmp1_lt {E T : Nat} (h1 : 1 ≤ E) (hE : E < 1023) (hT : T < 4503599627370496) : FP.dcmp (flb E T) FP.dconst1 = some .lt := by
  show FP.Core.order (FP.Core.decode FP.Core.b64 (flb E T).toNat) (FP.Core.decode FP.Core.b64 FP.dconst1.toNat) = some .lt
  rw [flb_dec h1 (by omega) hT, d_1]
  unfold FP.Core.order FP.Core.signed FP.Core.inUnits
  dsimp only
  have m : min ((E : Int) - 1075) (-52) = (E : Int) - 1075 := by omega
  rw [m]
  have e1 : ((E : Int) - 1075 - ((E : Int) - 1075)).toNat = 0 := by omega
  obtain ⟨k, hk⟩ : ∃ k, (-52 - ((E : Int) - 1075)).toNat = k + 1 := ⟨1022 - E, by omega⟩
  rw [e1, hk]
  have hp : 1 ≤ 2 ^ k := Nat.two_pow_pos k
  have hlt : (4503599627370496 + T) * 2 ^ 0 < 4503599627370496 * 2 ^ (k + 1) := by
    rw [Nat.pow_zero, Nat.mul_one, Nat.pow_succ]
    omega
  have : compare (((4503599627370496 + T) * 2 ^ 0 : Nat) : Int) ((4503599627370496 * 2 ^ (k + 1) : Nat) : Int) = .lt := by
    rw [Int.compare_eq_lt]
    exact Int.ofNat_lt.mpr hlt
  simpa using this
theorem cmp1_ge {T : Nat} (hT : T < 4503599627370496) : FP.dcmp (flb 1023 T) FP.dconst1 = some .gt ∨ FP.dcmp (flb 1023 T) FP.dconst1 = some .eq := by
  have e : FP.dcmp (flb 1023 T) FP.dconst1 = some (compare (((4503599627370496 + T) : Nat) : Int) ((4503599627370496 : Nat) : Int)) := by
    show FP.Core.order (FP.Core.decode FP.Core.b64 (flb 1023 T).toNat) (FP.Core.decode FP.Core.b64 FP.dconst1.toNat) = _
    rw [flb_dec (by decide) (by decide) hT, d_1]
    unfold FP.Core.order FP.Core.signed FP.Core.inUnits
    simp
  rw [e]
  by_cases h : T = 0
  · right
    rw [Int.compare_eq_eq.mpr (by omega)]
  · left
    rw [Int.compare_eq_gt.mpr (by omega)]
/-- compared with 0, with 2 -/
theorem cmp0_gt {E T : Nat} (h1 : 1 ≤ E) (hE : E ≤ 2046) (hT : T < 4503599627370496) : FP.dcmp (flb E T) FP.dconst0 = some .gt := by
  show FP.Core.order (FP.Core.decode FP.Core.b64 (flb E T).toNat) (FP.Core.decode FP.Core.b64 FP.dconst0.toNat) = some .gt
  rw [flb_dec h1 hE hT, d_0]
  unfold FP.Core.order FP.Core.signed FP.Core.inUnits
  have hp : 1 ≤ 2 ^ ((E : Int) - 1075 - min ((E : Int) - 1075) (-1074)).toNat := Nat.two_pow_pos _
  have hlt : 0 < (4503599627370496 + T) * 2 ^ ((E : Int) - 1075 - min ((E : Int) - 1075) (-1074)).toNat := Nat.mul_pos (by omega) hp
  dsimp only
  rw [Nat.zero_mul]
  show some (compare (((4503599627370496 + T) * 2 ^ ((E : Int) - 1075 - min ((E : Int) - 1075) (-1074)).toNat : Nat) : Int) ((0 : Nat) : Int)) = _
  rw [Int.compare_eq_gt.mpr (Int.ofNat_lt.mpr hlt)]
theorem cmp2_lt {E T : Nat} (h1 : 1 ≤ E) (hE : E ≤ 1023) (hT : T < 4503599627370496) : FP.dcmp (flb E T) (4611686018427387904 : UInt64) = some .lt := by
  show FP.Core.order (FP.Core.decode FP.Core.b64 (flb E T).toNat) (FP.Core.decode FP.Core.b64 (4611686018427387904 : UInt64).toNat) = some .lt
  rw [flb_dec h1 (by omega) hT, d_2]
  unfold FP.Core.order FP.Core.signed FP.Core.inUnits
  dsimp only
  have m : min ((E : Int) - 1075) (-51) = (E : Int) - 1075 := by omega
  rw [m]
  have e1 : ((E : Int) - 1075 - ((E : Int) - 1075)).toNat = 0 := by omega
  obtain ⟨k, hk⟩ : ∃ k, (-51 - ((E : Int) - 1075)).toNat = k + 1 := ⟨1023 - E, by omega⟩
  rw [e1, hk]
  have hp : 1 ≤ 2 ^ k := Nat.two_pow_pos k
  have hlt : (4503599627370496 + T) * 2 ^ 0 < 4503599627370496 * 2 ^ (k + 1) := by
    rw [Nat.pow_zero, Nat.mul_one, Nat.pow_succ]
    omega
  have : compare (((4503599627370496 + T) * 2 ^ 0 : Nat) : Int) ((4503599627370496 * 2 ^ (k + 1) : Nat) : Int) = .lt := by
    rw [Int.compare_eq_lt]
    exact Int.ofNat_lt.mpr hlt
  simpa using this
/-- not a NaN -/
theorem nnb_flb {E T : Nat} (hE : E ≤ 2046) (hT : T < 4503599627370496) : nnb (flb E T) = true := by
  unfold nnb
  rw [decide_eq_true_eq, UInt64.le_iff_toNat_le, UInt64.toNat_and, flb_n hE hT]
  have e : (0x7fffffffffffffff : UInt64).toNat = 2 ^ 63 - 1 := by decide
  rw [e, Nat.and_two_pow_sub_one_eq_mod]
  have e2 : (0x7ff0000000000000 : UInt64).toNat = 9218868437227405312 := by decide
  rw [e2]
  omega
/-- a number in [1, 2): its bits in two ways -/
theorem m52 {T : Nat} (hT : T < 4503599627370496) : FP.dmul (flb 1023 T) (4841369599423283200 : UInt64) = flb 1075 T := by
  show UInt64.ofNat (FP.Core.mul FP.Core.b64 (flb 1023 T).toNat (4841369599423283200 : UInt64).toNat) = _
  unfold FP.Core.mul
  rw [flb_dec (by decide) (by decide) hT, d_52]
  show UInt64.ofNat (FP.Core.encode FP.Core.b64 (FP.Core.roundRatio FP.Core.b64 false ((4503599627370496 + T) * 4503599627370496) 1 (((1023 : Nat) : Int) - 1075 + 0))) = _
  rw [rnd_ge hT (by omega) (by omega), show ((1023 : Nat) : Int) - 1075 + 0 + 52 = ((1075 : Nat) : Int) - 1075 by omega, enc_fin (by omega) hT]
  rfl
theorem l52 {T : Nat} (hT : T < 4503599627370496) : FP.d2l (flb 1075 T) = Int64.ofInt ((4503599627370496 + T : Nat) : Int) := by
  show Int64.ofInt (FP.Core.toInt (-2 ^ 63) (2 ^ 63 - 1) (FP.Core.decode FP.Core.b64 (flb 1075 T).toNat)) = _
  rw [flb_dec (by decide) (by decide) hT]
  unfold FP.Core.toInt FP.Core.truncate FP.Core.signed
  congr 1
  simp
  omega
theorem sub1_0 : FP.dsub (flb 1023 0) FP.dconst1 = 0 := by decide +kernel
theorem sub1 {T L : Nat} (h0 : 2 ^ L ≤ T) (hn : T < 2 ^ (L + 1)) (hL : L ≤ 51) : ∃ U, U < 4503599627370496 ∧ T * 2 ^ (52 - L) = 4503599627370496 + U ∧ FP.dsub (flb 1023 T) FP.dconst1 = flb (L + 971) U := by
  have hpos : 0 < T := by have := Nat.two_pow_pos L; omega
  have hT : T < 4503599627370496 := by
    have : 2 ^ (L + 1) ≤ 2 ^ 52 := Nat.pow_le_pow_right (by decide) (by omega)
    omega
  obtain ⟨U, hU, e⟩ := norm_lt h0 hn (by omega)
  refine ⟨U, hU, e, ?_⟩
  show UInt64.ofNat (FP.Core.sub FP.Core.b64 (flb 1023 T).toNat FP.dconst1.toNat) = _
  unfold FP.Core.sub
  rw [flb_dec (by decide) (by decide) hT, d_1]
  have es : FP.Core.exactSum (.fin false (4503599627370496 + T) (((1023 : Nat) : Int) - 1075)) (FP.Core.negate (.fin false 4503599627370496 (-52))) = .fin false T (-52) := by
    unfold FP.Core.negate FP.Core.exactSum
    dsimp only
    unfold FP.Core.sumSign FP.Core.sumUnits FP.Core.signed FP.Core.inUnits
    have m : min (((1023 : Nat) : Int) - 1075) (-52) = -52 := by omega
    rw [m]
    have e1 : ((((1023 : Nat) : Int) - 1075) - -52).toNat = 0 := by omega
    have e2 : ((-52 : Int) - -52).toNat = 0 := by omega
    rw [e1, e2]
    have e3 : (((4503599627370496 + T) * 2 ^ 0 : Nat) : Int) + -((4503599627370496 * 2 ^ 0 : Nat) : Int) = T := by omega
    simp only [Bool.false_eq_true, if_false, Bool.not_false, if_true, e3]
    rw [if_neg (by omega), decide_eq_false (by omega)]
    rfl
  rw [es]
  show UInt64.ofNat (FP.Core.encode FP.Core.b64 (FP.Core.roundRatio FP.Core.b64 false T 1 (-52))) = _
  rw [rnd_lt h0 hn (by omega) (by omega) (by omega), e, show (-52 : Int) + L - 52 = ((L + 971 : Nat) : Int) - 1075 by omega, enc_fin (by omega) hU]
  rfl
theorem mul52 {E U : Nat} (h1 : 1 ≤ E) (hE : E ≤ 1994) (hU : U < 4503599627370496) : FP.dmul (flb E U) (4841369599423283200 : UInt64) = flb (E + 52) U := by
  show UInt64.ofNat (FP.Core.mul FP.Core.b64 (flb E U).toNat (4841369599423283200 : UInt64).toNat) = _
  unfold FP.Core.mul
  rw [flb_dec h1 (by omega) hU, d_52]
  show UInt64.ofNat (FP.Core.encode FP.Core.b64 (FP.Core.roundRatio FP.Core.b64 false ((4503599627370496 + U) * 4503599627370496) 1 ((E : Int) - 1075 + 0))) = _
  rw [rnd_ge hU (by omega) (by omega), show (E : Int) - 1075 + 0 + 52 = ((E + 52 : Nat) : Int) - 1075 by omega, enc_fin (by omega) hU]
  rfl
theorem lL {T L U : Nat} (hL : L ≤ 51) (hT : T < 4503599627370496) (hU : U < 4503599627370496) (e : T * 2 ^ (52 - L) = 4503599627370496 + U) : FP.d2l (flb (L + 1023) U) = Int64.ofInt (T : Int) := by
  show Int64.ofInt (FP.Core.toInt (-2 ^ 63) (2 ^ 63 - 1) (FP.Core.decode FP.Core.b64 (flb (L + 1023) U).toNat)) = _
  rw [flb_dec (by omega) (by omega) hU, ← e]
  unfold FP.Core.toInt FP.Core.truncate FP.Core.signed
  dsimp only
  have e1 : (((L + 1023 : Nat) : Int) - 1075).toNat = 0 := by omega
  have e2 : (-(((L + 1023 : Nat) : Int) - 1075)).toNat = 52 - L := by omega
  rw [e1, e2, Nat.pow_zero, Nat.mul_one, Nat.mul_div_cancel _ (Nat.two_pow_pos _)]
  refine congrArg Int64.ofInt ?_
  simp
  omega
theorem tail_eq {T : Nat} (hT : T < 4503599627370496) : nnb (FP.dsub (flb 1023 T) FP.dconst1) = true ∧ nnb (FP.dmul (FP.dsub (flb 1023 T) FP.dconst1) (4841369599423283200 : UInt64)) = true ∧ FP.d2l (FP.dmul (FP.dsub (flb 1023 T) FP.dconst1) (4841369599423283200 : UInt64)) = Int64.ofInt (T : Int) := by
  by_cases h : T = 0
  · subst h
    rw [sub1_0]
    decide +kernel
  · obtain ⟨L, hL⟩ : ∃ L, T.log2 = L := ⟨_, rfl⟩
    have h0 : 2 ^ L ≤ T := by rw [← hL]; exact Nat.log2_self_le h
    have hn : T < 2 ^ (L + 1) := by rw [← hL]; exact Nat.lt_log2_self
    have hL51 : L ≤ 51 := by
      refine Nat.le_of_not_lt (fun q => ?_)
      have : 2 ^ 52 ≤ 2 ^ L := Nat.pow_le_pow_right (by decide) (by omega)
      omega
    obtain ⟨U, hU, e, es⟩ := sub1 h0 hn hL51
    rw [es, mul52 (by omega) (by omega) hU]
    refine ⟨nnb_flb (by omega) hU, nnb_flb (by omega) hU, ?_⟩
    rw [show L + 971 + 52 = L + 1023 by omega]
    exact lL hL51 hT hU e

