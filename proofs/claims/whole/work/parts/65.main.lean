/-! the law's loop -/
theorem lgc {x : Int64} : lg_cmp x x = 0 := by
  unfold lg_cmp
  rw [if_neg (show ¬ x > x from fun q => by have := Int64.lt_iff_toInt_lt.mp q; omega), if_pos rfl]
theorem st_throw {C : Option (Int32 × MS)} {F : MS → Option (Int32 × MS)} {K : MS → Option Int32} (h : StQ C F) (hK : ∀ M, INV M → K M = some 1) : (bd2 C fun r10 M11 => (bd2 (F M11) fun r18 M17 => (bd (F_X5_thrown M17) fun r20 => (if r20 = r10 then (if ¬ r10 = 0 then (K M17) else (if (lg_cmp (rO M17) (Int32.toInt64 r18)) = 0 then (K M17) else (some (0 : Int32)))) else (some (0 : Int32)))))) = some 1 := by
  obtain ⟨k, M1, r, M2, h1, h2, h3, h4, h5⟩ := h
  rw [h1, bd2_s]
  show (bd2 (F M1) fun r18 M17 => (bd (F_X5_thrown M17) fun r20 => (if r20 = k then (if ¬ k = 0 then (K M17) else (if (lg_cmp (rO M17) (Int32.toInt64 r18)) = 0 then (K M17) else (some (0 : Int32)))) else (some (0 : Int32))))) = some 1
  rw [h2, bd2_s]
  show (bd (F_X5_thrown M2) fun r20 => (if r20 = k then (if ¬ k = 0 then (K M2) else (if (lg_cmp (rO M2) (Int32.toInt64 r)) = 0 then (K M2) else (some (0 : Int32)))) else (some (0 : Int32)))) = some 1
  rw [F_X5_thrown, bd_s, h3, if_pos rfl]
  by_cases q : k = 0
  · rw [if_neg (fun s => s q), h4 q, lgc, if_pos rfl]
    exact hK M2 h5
  · rw [if_pos q]
    exact hK M2 h5
theorem loop_ok {xs : Nat → Int32} {L : Nat} (hL : L ≤ 2560) : ∀ n i M, INV M → i ≤ L + 4 → L + 5 ≤ i + 5 * n → F_L_loop xs L n (nI i) M = some 1 := by
  intro n
  induction n with
  | zero => intro i M _ h1 h2; omega
  | succ n ih =>
    intro i M hI h1 h2
    have hcmp : (Int32.ofNat L - (5 : Int32) < nI i) ↔ (L : Int) - 5 < (i : Int) := by
      have e : (nI L - (5 : Int32)).toInt = (L : Int) - 5 := by rw [nI_lit 5, pk_sub_toInt (by omega) (by decide)]; rfl
      rw [show Int32.ofNat L = nI L from rfl, Int32.lt_iff_toInt_lt, e, nI_toInt (by omega)]
    rw [F_L_loop]
    by_cases hc : (L : Int) - 5 < (i : Int)
    · rw [if_pos (hcmp.mpr hc)]
    have hi : i + 5 ≤ L := by omega
    have hx : ∀ k : Nat, nI i + OfNat.ofNat k = nI (i + k) := fun k => by rw [nI_lit k, nI_add]
    have x1 : nI i + (1 : Int32) = nI (i + 1) := hx 1
    have x2 : nI i + (2 : Int32) = nI (i + 2) := hx 2
    have x3 : nI i + (3 : Int32) = nI (i + 3) := hx 3
    have x4 : nI i + (4 : Int32) = nI (i + 4) := hx 4
    have x5 : nI i + (5 : Int32) = nI (i + 5) := hx 5
    have i1 : inb (nI (i + 1)) L = true := inb_nI (by omega) (by omega)
    have i2 : inb (nI (i + 2)) L = true := inb_nI (by omega) (by omega)
    have i3 : inb (nI (i + 3)) L = true := inb_nI (by omega) (by omega)
    have i4 : inb (nI (i + 4)) L = true := inb_nI (by omega) (by omega)
    have next : ∀ M, INV M → F_L_loop xs L n (nI (i + 5)) M = some 1 := fun M h => ih (i + 5) M h (by omega) (by omega)
    rw [if_neg (fun q => hc (hcmp.mp q)), gdb_t (inb_nI (show i < L by omega) (by omega)), nm_k]
    generalize (xs (nI i).toNatClampNeg) &&& (31 : Int32) = x
    by_cases c0 : x = 0
    · rw [if_pos c0]
      simp only [x1, x2, x3, x4, x5, gdb_t i1, gdb_t i2, gdb_t i3, gdb_t i4, nm_k]
      exact st_throw (s_come _ _ _ _ M hI) next
    rw [if_neg c0]
    by_cases c1 : x = 1
    · rw [if_pos c1]
      obtain ⟨r, M1, M2, g1, g2, g3⟩ := n_begin hI
      rw [g1, bd2_s]
      show (bd2 (F_X5_begin M1) _) = some 1
      rw [g2, bd2_s]
      try dsimp only
      rw [if_pos rfl, nm_k, x5]
      exact next M2 g3
    rw [if_neg c1]
    by_cases c2 : x = 2
    · rw [if_pos c2]
      simp only [x1, x2, x3, x4, x5, gdb_t i1, gdb_t i2, gdb_t i3, gdb_t i4, nm_k]
      exact st_throw (s_strike _ M hI) next
    rw [if_neg c2]
    by_cases c3 : x = 3
    · rw [if_pos c3]
      simp only [x1, x2, x3, x4, x5, gdb_t i1, gdb_t i2, gdb_t i3, gdb_t i4, nm_k]
      exact st_throw (s_step _ M hI) next
    rw [if_neg c3]
    by_cases c4 : x = 4
    · rw [if_pos c4]
      simp only [x1, x2, x3, x4, x5, gdb_t i1, gdb_t i2, gdb_t i3, gdb_t i4, nm_k]
      exact st_throw (s_help _ M hI) next
    rw [if_neg c4]
    by_cases c5 : x = 5
    · rw [if_pos c5]
      simp only [x1, x2, x3, x4, x5, gdb_t i1, gdb_t i2, gdb_t i3, gdb_t i4, nm_k]
      exact st_throw (s_curse _ _ _ M hI) next
    rw [if_neg c5]
    by_cases c6 : x = 6
    · rw [if_pos c6]
      simp only [x1, x2, x3, x4, x5, gdb_t i1, gdb_t i2, gdb_t i3, gdb_t i4, nm_k]
      exact st_throw (s_delay M hI) next
    rw [if_neg c6]
    by_cases c7 : x = 7
    · rw [if_pos c7]
      simp only [x1, x2, x3, x4, x5, gdb_t i1, gdb_t i2, gdb_t i3, gdb_t i4, nm_k]
      exact st_throw (s_ready _ _ _ _ M hI) next
    rw [if_neg c7]
    by_cases c8 : x = 8
    · rw [if_pos c8]
      simp only [x1, x2, x3, x4, x5, gdb_t i1, gdb_t i2, gdb_t i3, gdb_t i4, nm_k]
      exact st_throw (s_end M hI) next
    rw [if_neg c8]
    by_cases c9 : x = 9
    · rw [if_pos c9]
      simp only [x1, x2, x3, x4, x5, gdb_t i1, gdb_t i2, gdb_t i3, gdb_t i4, nm_k]
      exact st_throw (s_comeIn _ M hI) next
    rw [if_neg c9]
    by_cases c10 : x = 10
    · rw [if_pos c10]
      simp only [x1, x2, x3, x4, x5, gdb_t i1, gdb_t i2, gdb_t i3, gdb_t i4, nm_k]
      exact st_throw (s_append _ M hI) next
    rw [if_neg c10]
    by_cases c11 : x = 11
    · rw [if_pos c11]
      obtain ⟨r, M1, M2, g1, g2, g3⟩ := n_clear hI
      rw [g1, bd2_s]
      show (bd2 (F_X5_clearBuffer M1) _) = some 1
      rw [g2, bd2_s]
      try dsimp only
      rw [if_pos rfl, nm_k, x5]
      exact next M2 g3
    rw [if_neg c11]
    by_cases c12 : x = 12
    · rw [if_pos c12]
      obtain ⟨r, M2, g1, g2, g3⟩ := n_first hI
      rw [g1, bd_s, g2, bd2_s]
      try dsimp only
      rw [if_pos rfl, nm_k, x5]
      exact next M2 g3
    rw [if_neg c12]
    by_cases c13 : x = 13
    · rw [if_pos c13]
      simp only [x1, x2, x3, x4, x5, gdb_t i1, gdb_t i2, gdb_t i3, gdb_t i4, nm_k]
      exact st_throw (s_run M hI) next
    rw [if_neg c13]
    by_cases c14 : x = 14
    · rw [if_pos c14]
      simp only [x1, x2, x3, x4, x5, gdb_t i1, gdb_t i2, gdb_t i3, gdb_t i4, nm_k]
      exact st_throw (s_undo M hI) next
    rw [if_neg c14]
    by_cases c15 : x = 15
    · rw [if_pos c15]
      simp only [x1, x2, x3, x4, x5, gdb_t i1, gdb_t i2, gdb_t i3, gdb_t i4, nm_k]
      exact st_throw (s_fighter _ _ M hI) next
    rw [if_neg c15]
    by_cases c16 : x = 16
    · rw [if_pos c16]
      simp only [x1, x2, x3, x4, x5, gdb_t i1, gdb_t i2, gdb_t i3, gdb_t i4, nm_k]
      exact st_throw (s_readied _ _ M hI) next
    rw [if_neg c16]
    by_cases c17 : x = 17
    · rw [if_pos c17]
      simp only [x1, x2, x3, x4, x5, gdb_t i1, gdb_t i2, gdb_t i3, gdb_t i4, nm_k]
      exact st_throw (s_inRow _ M hI) next
    rw [if_neg c17]
    by_cases c18 : x = 18
    · rw [if_pos c18]
      simp only [x1, x2, x3, x4, x5, gdb_t i1, gdb_t i2, gdb_t i3, gdb_t i4, nm_k]
      exact st_throw (s_count _ M hI) next
    rw [if_neg c18]
    by_cases c19 : x = 19
    · rw [if_pos c19]
      simp only [x1, x2, x3, x4, x5, gdb_t i1, gdb_t i2, gdb_t i3, gdb_t i4, nm_k]
      exact st_throw (s_ifDone _ _ _ M hI) next
    rw [if_neg c19]
    by_cases c20 : x = 20
    · rw [if_pos c20]
      simp only [x1, x2, x3, x4, x5, gdb_t i1, gdb_t i2, gdb_t i3, gdb_t i4, nm_k]
      exact st_throw (s_ifEnded _ M hI) next
    rw [if_neg c20]
    by_cases c21 : x = 21
    · rw [if_pos c21]
      obtain ⟨r, M1, M2, g1, g2, g3⟩ := n_best hI
      rw [g1, bd2_s]
      show (bd2 (F_X5_bestStrike M1) _) = some 1
      rw [g2, bd2_s]
      try dsimp only
      rw [if_pos rfl, nm_k, x5]
      exact next M2 g3
    rw [if_neg c21]
    by_cases c22 : x = 22
    · rw [if_pos c22]
      obtain ⟨r, M2, g1, g2, g3, g4⟩ := n_stand hI
      rw [g1, bd_s, g2, bd2_s]
      try dsimp only
      rw [if_pos (show Op.cmpValue (FP.dcmp r r) .l = 0 by rw [g3]; rfl), nm_k, x5]
      exact next M2 g4
    rw [if_neg c22]
    by_cases c23 : x = 23
    · rw [if_pos c23]
      obtain ⟨r, M1, M2, g1, g2, g3⟩ := n_digest hI
      rw [g1, bd2_s]
      show (bd2 (F_X5_digest M1) _) = some 1
      rw [g2, bd2_s]
      try dsimp only
      rw [if_pos lgc, nm_k, x5]
      exact next M2 g3
    rw [if_neg c23]
    rw [nm_k, x5]
    exact next M hI
/-- the start -/
theorem INV_0 : INV M0 := by
  have e2 : rA M0 221 2 = -1 := rfl
  have ej : ∀ j, j ≠ 2 → rA M0 221 j = 0 := fun j hj => by
    show (if 221 = 221 ∧ j = 2 then (-1 : Int32) else 0) = 0
    rw [if_neg (fun q => hj q.2)]
  have hn : zn (rA M0 221) = 0 := by unfold zn; rw [ej 0 (by decide)]; rfl
  have hz : ZW (rA M0 221) := ⟨⟨by rw [hn, ej 0 (by decide)]; rfl, by rw [hn]; decide, fun i hi => by omega, fun i j hi => by omega⟩, fun f hf => by omega, fun j hj => ej j (by omega)⟩
  have hF : ∀ c v, ¬ (c = 54 ∨ c = 8 ∨ c = 9 ∨ c = 10 ∨ c = 11) → rF M0 c v = 0 := fun c v h => if_neg h
  have hnb : ∀ v, NB M0 v := fun v => ⟨hF 2 _ (by decide), hF 7 _ (by decide)⟩
  refine ⟨rA M0 221, 0, fun _ _ => 0, 0, fun _ => 0, ⟨hz, Or.inl e2, by decide, fun i hi => by omega, by decide⟩, fun i hi => by omega, ⟨⟨⟨?_, ?_, ?_, ?_, ?_, ?_⟩, ⟨?_, fun i hi => by omega⟩, fun f hf => by omega, hnb 0⟩, ?_, ⟨fun i hi => ?_, fun i j hi hj q => ?_⟩, fun i hi => by omega, ⟨?_, fun i hi => by omega⟩, fun k _ => hnb _⟩, ⟨rfl, ?_, fun i hi => by omega, ?_, fun i hi => by omega⟩⟩
  · rw [ej 0 (by decide)]; exact hF _ _ (by decide)
  · rw [ej 1 (by decide)]; exact hF _ _ (by decide)
  · rfl
  · rw [ej 3 (by decide)]; exact hF _ _ (by decide)
  · rw [ej 4 (by decide)]; exact hF _ _ (by decide)
  · rw [ej 5 (by decide)]; exact hF _ _ (by decide)
  · rw [ej 0 (by decide)]; exact hF _ _ (by decide)
  · exact hF _ _ (by decide)
  · show 2 ≤ i + 2 ∧ i + 2 < 8
    omega
  · have : i + 2 = j + 2 := q
    omega
  · exact hF _ _ (by decide)
  · exact hF _ _ (by decide)
  · exact hF _ _ (by decide)
theorem pure_main {xs : Nat → Int32} {L : Nat} (hL : L ≤ 2560) : F_L_loop xs L 6000 0 M0 = some 1 := loop_ok hL 6000 0 M0 INV_0 (by omega) (by omega)
