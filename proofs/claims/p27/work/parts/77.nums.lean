/-! the script's numbers; who has the turn, or nobody -/
def lo (v : Int32) (n : Nat) : Nat := (v &&& (2147483647 : Int32)).toNatClampNeg % n
theorem lo_lt {v : Int32} {n : Nat} (h : 0 < n) : lo v n < n := Nat.mod_lt _ h
theorem low_ok {M : MS} {v : Int32} {n : Nat} (h : 0 < n) (hn : n < 2 ^ 31) : F_L_low M v (nI n) = some (nI (lo v n)) := by
  obtain ⟨j, hj, e⟩ := pk_andE v (m := (2147483647 : Int32)) 31 (by decide)
  have h0 : (!(nI n == 0)) = true := by simpa using nI_ne0 h hn
  unfold lo
  rw [F_L_low, gdb_t h0, e, nI_clamp (by omega), pk_rem (by omega) h hn]
theorem cell_ok {xs : Nat → Int32} {L j : Nat} (hL : L ≤ 260) (hj : j < 2 ^ 31) : ∃ r, F_L_cell xs L (nI j) = some r := by
  rw [F_L_cell]
  by_cases c : L ≤ j
  · rw [if_pos (show Int32.ofNat L ≤ nI j from nI_le c hj)]
    exact ⟨_, rfl⟩
  · rw [if_neg (show ¬ Int32.ofNat L ≤ nI j from nI_ge (by omega) (by omega)), gdb_t (inb_nI (by omega) (by omega))]
    exact ⟨_, rfl⟩
/-- nobody has the turn: all have fallen -/
def TA (z : Nat → Int32) : Prop := z 2 = -1 → zall z (zn z) = true
theorem zgo_ta : ∀ m (z : Nat → Int32) (p : Nat), ZW z → p ≤ zn z → zmu z (zn z) < m → TA (zgo m z p) := by
  intro m
  induction m with
  | zero => intro z p _ _ h; omega
  | succ m ih =>
    intro z p hz hp hmu
    have hb := hz.1.2.1
    rw [zgo]
    by_cases ha : zall z (zn z) = true
    · rw [if_pos ha]
      intro _
      rw [zn_up hz.1 (by decide) (by decide)]
      refine (zall_iff _).mpr (fun f hf => ?_)
      rw [zo_lo (by decide)]
      exact (zall_iff _).mp ha f hf
    · rw [if_neg ha]
      obtain ⟨f, hf, hn, hz1, hn1, h1, h6, ho, hr⟩ := znext_ok hz.1 hp ha
      have hcl : (znext z p).2.toNatClampNeg = f := by rw [hn, nI_clamp (by omega)]
      rw [hcl]
      by_cases hc : zo (zbeg (znext z p).1 f) f 2 = 0 ∨ 0 < zo (zbeg (znext z p).1 f) f 11
      · rw [if_pos hc]
        have w1 : ZW (znext z p).1 := ZW_next hz
        obtain ⟨s1, s2, s3⟩ := Z0_beg (f := f) hz1
        obtain ⟨t1, t2, t3⟩ := Z0_pass (f := f) (c := 4) s1
        have hnn : zn (zpass (zbeg (znext z p).1 f) f 4) = zn z := t2.trans (s2.trans hn1)
        have hst := zgo_step hz.1 hp ha hf hn h1 hz1 ho hc
        have wp : ZW (zpass (zbeg (znext z p).1 f) f 4) := ZW_pass (ZW_beg w1 (by rw [hn1]; exact hf)) (by rw [s2, hn1]; exact hf) 4 (by decide)
        obtain ⟨u1, u2, u3⟩ := zpn_lt t1 (f := f) (by rw [hnn]; exact hf)
        exact ih _ _ wp (by omega) (by rw [hnn]; omega)
      · rw [if_neg hc]
        intro q
        rw [zbeg_lo (by decide), if_neg (by decide), if_pos rfl] at q
        exact absurd q (ne1 _ (by omega))
theorem zend_ta {z : Nat → Int32} {f : Nat} (hz : ZW z) (hf : f < zn z) : TA (zend z f) := by
  have wp := ZW_pass (f := f) hz hf 4 (by decide)
  obtain ⟨b1, b2, b3⟩ := Z0_pass (f := f) (c := 4) hz.1
  obtain ⟨c1, c2, c3⟩ := zpn_lt b1 (f := f) (by rw [b2]; exact hf)
  have := zmu_60 wp
  exact zgo_ta 100 _ _ wp (by omega) (by omega)
/-- what holds between the steps -/
def LM (M : MS) (z : Nat → Int32) (n : Nat) : Prop := SJ M z ∧ LRt M z (z 2) ∧ zn z = n ∧ TA z
