/-! what is set off; an act -/
def FQ (M M1 : MS) : Prop := (∀ c v, (c ≠ 88 ∨ v ≠ 220) → rF M1 c v = rF M c v) ∧ (∀ v, v ≠ 221 → v ≠ 225 → rA M1 v = rA M v) ∧ M1.2.2 = M.2.2
theorem FQ_refl {M : MS} : FQ M M := ⟨fun _ _ _ => rfl, fun _ _ _ => rfl, rfl⟩
theorem FQ_trans {M M1 M2 : MS} (h1 : FQ M M1) (h2 : FQ M1 M2) : FQ M M2 := ⟨fun c v h => (h2.1 c v h).trans (h1.1 c v h), fun v a b => (h2.2.1 v a b).trans (h1.2.1 v a b), h2.2.2.trans h1.2.2⟩
theorem FQ_mz {M : MS} {z : Nat → Int32} : FQ M (mz M z) := ⟨fun _ _ _ => rfl, fun v h _ => mz_ne h, rfl⟩
theorem rA_wA {M : MS} {v i : Nat} {x : Int32} : rA (wA M v i x) v = upd (rA M v) i x := by simp [rA, wA]
theorem rA_wAn {M : MS} {v u i : Nat} {x : Int32} (h : u ≠ v) : rA (wA M v i x) u = rA M u := by simp [rA, wA, h]
theorem FQ_A {M : MS} {v i : Nat} {x : Int32} (hv : v = 225) : FQ M (wA M v i x) := ⟨fun _ _ _ => rfl, fun u h1 h2 => rA_wAn (by omega), rfl⟩
theorem FQ_88 {M : MS} {x : Int32} : FQ M (wF M 88 220 x) := ⟨fun c v h => by unfold wF rF; exact if_neg (by omega), fun _ _ _ => rfl, rfl⟩
/-- who is set off, in the order of the row -/
def zsl (z : Nat → Int32) (c : Nat) (kd : Int32) : Nat → List Nat
  | 0 => []
  | m + 1 => if zset z (zrow z m) c kd = true then zsl z c kd m ++ [zrow z m] else zsl z c kd m
theorem zsl_len {z : Nat → Int32} {c : Nat} {kd : Int32} : ∀ m, (zsl z c kd m).length ≤ m
  | 0 => Nat.le_refl _
  | m + 1 => by
    have := zsl_len (z := z) (c := c) (kd := kd) m
    rw [zsl]
    split
    · rw [List.length_append, List.length_singleton]; omega
    · omega
theorem zsl_mem {z : Nat → Int32} {c : Nat} {kd : Int32} {a : Nat} : ∀ m, a ∈ zsl z c kd m → zset z a c kd = true ∧ ∃ i, i < m ∧ a = zrow z i
  | 0, h => by simp [zsl] at h
  | m + 1, h => by
    rw [zsl] at h
    split at h
    · rename_i hs
      rcases List.mem_append.mp h with h | h
      · obtain ⟨h1, i, h2, h3⟩ := zsl_mem m h
        exact ⟨h1, i, by omega, h3⟩
      · rw [List.mem_singleton] at h
        subst h
        exact ⟨hs, m, by omega, rfl⟩
    · obtain ⟨h1, i, h2, h3⟩ := zsl_mem m h
      exact ⟨h1, i, by omega, h3⟩
theorem zsl_nodup {z : Nat → Int32} {c : Nat} {kd : Int32} (hz : Z0 z) : ∀ m, m ≤ zn z → (zsl z c kd m).Nodup
  | 0, _ => List.nodup_nil
  | m + 1, h => by
    have ih := zsl_nodup (c := c) (kd := kd) hz m (by omega)
    rw [zsl]
    split
    · rw [List.nodup_append]
      refine ⟨ih, by simp, fun a ha b hb e => ?_⟩
      rw [List.mem_singleton] at hb
      obtain ⟨_, i, h2, h3⟩ := zsl_mem m ha
      have := hz.2.2.2 i m (by omega) (by omega) (by rw [← h3, e, hb])
      omega
    · exact ih
def inRdy (M : MS) (i : Nat) (l : List Nat) : Prop := ∀ j a, l[j]? = some a → rA M 225 (i + j) = nI a
theorem setOff_l {z : Nat → Int32} {c : Nat} {kd : Int32} (hz : Z0 z) (hc : c < 10) : ∀ d i k (M : MS), i + d = zn z → d < k → rA M 221 = z → inRdy M 0 (zsl z c kd i) → ∃ M', F_X5_setOff_l5 (nI c) kd k (nI (zsl z c kd i).length) (nI i) M = F_X5_setOff_l63 (nI c) (nI (zsl z c kd (zn z)).length) FU 0 M' ∧ FQ M M' ∧ rA M' 221 = z ∧ inRdy M' 0 (zsl z c kd (zn z)) := by
  have hb := hz.2.1
  intro d
  induction d with
  | zero =>
    intro i k M h hk hM hr
    obtain ⟨k, rfl⟩ : ∃ q, k = q + 1 := ⟨k - 1, by omega⟩
    have e : i = zn z := by omega
    subst e
    rw [F_X5_setOff_l5, gd0, tn0, hM, if_pos ((z0_le hz (by omega)).mpr (by omega))]
    exact ⟨M, rfl, FQ_refl, hM, hr⟩
  | succ d ih =>
    intro i k M h hk hM hr
    obtain ⟨k, rfl⟩ : ∃ q, k = q + 1 := ⟨k - 1, by omega⟩
    have hl := zsl_len (z := z) (c := c) (kd := kd) i
    obtain ⟨r1, r2⟩ := hz.2.2.1 i (by omega)
    have hset : F_X5_isSetOff M (nI (zrow z i)) (nI c) kd = some (if zset z (zrow z i) c kd = true then 1 else 0) := by
      have := set_eq (M := M) (f := zrow z i) (c := c) (kd := kd) (by omega) hc
      rw [hM] at this
      exact this
    rw [F_X5_setOff_l5, gd0, tn0, hM, if_neg (fun q => by have := (z0_le hz (by omega)).mp q; omega), ix_r, gdb_t (inb_nI (by omega) (by omega)), nI_clamp (by omega), r1, hset, bd_s]
    by_cases hs : zset z (zrow z i) c kd = true
    · have e1 : zsl z c kd (i + 1) = zsl z c kd i ++ [zrow z i] := by rw [zsl, if_pos hs]
      have e2 : (zsl z c kd (i + 1)).length = (zsl z c kd i).length + 1 := by rw [e1, List.length_append, List.length_singleton]
      rw [if_pos hs, if_neg (by decide), gdb_t (inb_nI (by omega) (by omega)), gdb_t (inb_nI (by omega) (by omega)), nI_clamp (by omega), nm_k, nm_k, nm_k, nI_1, nI_1, ← e2]
      obtain ⟨M', g1, g2, g3, g4⟩ := ih (i + 1) k (wA M 225 (zsl z c kd i).length (nI (zrow z i))) (by omega) (by omega) (by rw [rA_wAn (by decide), hM]) (by
        intro j a hj
        have e3 : rA (wA M 225 (zsl z c kd i).length (nI (zrow z i))) 225 = upd (rA M 225) (zsl z c kd i).length (nI (zrow z i)) := rA_wA
        rw [e3, Nat.zero_add]
        rw [e1] at hj
        by_cases q : j < (zsl z c kd i).length
        · rw [List.getElem?_append_left q] at hj
          rw [upd_n (by omega)]
          have := hr j a hj
          rwa [Nat.zero_add] at this
        · rw [List.getElem?_append_right (by omega)] at hj
          obtain ⟨m, hm⟩ : ∃ m, j - (zsl z c kd i).length = m := ⟨_, rfl⟩
          rw [hm] at hj
          cases m with
          | zero =>
            have hj' : j = (zsl z c kd i).length := by omega
            simp at hj
            rw [hj', upd_s, hj]
          | succ m => simp at hj)
      exact ⟨M', g1, FQ_trans (FQ_A rfl) g2, g3, g4⟩
    · have e1 : zsl z c kd (i + 1) = zsl z c kd i := by rw [zsl, if_neg hs]
      rw [if_neg hs, if_pos rfl, nm_k, nI_1]
      obtain ⟨M', g1, g2, g3, g4⟩ := ih (i + 1) k M (by omega) (by omega) hM (by rw [e1]; exact hr)
      rw [e1] at g1
      exact ⟨M', g1, g2, g3, g4⟩
/-- one act that is set off -/
def zone (z : Nat → Int32) (c f : Nat) : Nat → Int32 :=
  zahead (if ¬ zo z f 2 = 0 ∧ ¬ 0 < zo z f 11 ∧ zpos (zlose z f) f (zo z f 7) (zo z f 8) = true then zdo (zlose z f) f (zo z f 7) (zo z f 8) 0 0 else upd (zlose z f) 4 (zlose z f 4 + 1)) f c
theorem rd_ok {z : Nat → Int32} {f : Nat} (hf : fw z f) (h : ¬ zo z f 7 = -1) : (zo z f 7 = 0 ∨ zo z f 7 = 2) ∧ ∃ g, g < zn z ∧ zo z f 8 = nI g := by
  rcases hf.2.2.2.2.2.2.1 with q | ⟨q1, q2, _⟩
  · exact absurd q.1 h
  · exact ⟨q1, q2⟩
theorem rd_xok {z : Nat → Int32} {f : Nat} (hf : fw z f) (h : ¬ zo z f 7 = -1) : xok z (zo z f 7) (zo z f 8) := by
  obtain ⟨h1, h2⟩ := rd_ok hf h
  refine Or.inr ⟨?_, h2⟩
  rcases h1 with h1 | h1 <;> rw [h1] <;> decide
theorem ZW_one {z : Nat → Int32} {c f : Nat} (hz : ZW z) (hf : f < zn z) (hc : c < zn z) (hk : ¬ zo z f 7 = -1) : ZW (zone z c f) ∧ zn (zone z c f) = zn z := by
  have h1 := ZW_lose hz hf
  have n1 := (Z0_lose (f := f) hz.1).2.1
  have hx := xok_of n1 (rd_xok (hz.2.1 f hf) hk)
  unfold zone
  split
  · obtain ⟨a, b⟩ := ZW_do (c := 0) (r := 0) (ri := 0) h1 (by rw [n1]; exact hf) hx (by decide) (by decide) rfl
    obtain ⟨c1, c2⟩ := ZW_ahead (f := f) (c := c) a (by rw [b, n1]; exact hf) (by rw [b, n1]; exact hc)
    exact ⟨c1, by rw [c2, b, n1]⟩
  · have a := ZW_up (g := 4) (x := zlose z f 4 + 1) h1 (by decide) (by decide)
    have b := zn_up (g := 4) (x := zlose z f 4 + 1) h1.1 (by decide) (by decide)
    obtain ⟨c1, c2⟩ := ZW_ahead (f := f) (c := c) a (by rw [b, n1]; exact hf) (by rw [b, n1]; exact hc)
    exact ⟨c1, by rw [c2, b, n1]⟩
theorem zone_rd {z : Nat → Int32} {c f g : Nat} (hz : ZW z) (hf : f < zn z) (hc : c < zn z) (hk : ¬ zo z f 7 = -1) (hg : g ≠ f) : zo (zone z c f) g 7 = zo z g 7 := by
  have h1 := ZW_lose hz hf
  have n1 := (Z0_lose (f := f) hz.1).2.1
  have hx := xok_of n1 (rd_xok (hz.2.1 f hf) hk)
  have e : zo (zlose z f) g 7 = zo z g 7 := by rw [zlose_o (by decide), if_neg (fun q => hg q.1)]
  unfold zone
  split
  · obtain ⟨a, b⟩ := ZW_do (c := 0) (r := 0) (ri := 0) h1 (by rw [n1]; exact hf) hx (by decide) (by decide) rfl
    rw [ahead_o a.1 (by rw [b, n1]; exact hf) (by rw [b, n1]; exact hc) (by decide), if_neg (fun q => hg q.1), zdo_rd (by decide) (by decide), e]
  · have a := ZW_up (g := 4) (x := zlose z f 4 + 1) h1 (by decide) (by decide)
    have b := zn_up (g := 4) (x := zlose z f 4 + 1) h1.1 (by decide) (by decide)
    rw [ahead_o a.1 (by rw [b, n1]; exact hf) (by rw [b, n1]; exact hc) (by decide), if_neg (fun q => hg q.1), zo_lo (by decide), e]
def zso (c : Nat) : List Nat → (Nat → Int32) → (Nat → Int32)
  | [], z => z
  | f :: l, z => zso c l (zone z c f)
theorem setOff_m {c L : Nat} : ∀ (l : List Nat) (i k : Nat) (M : MS) (z : Nat → Int32), rA M 221 = z → ZW z → c < zn z → inRdy M i l → (∀ a, a ∈ l → a < zn z ∧ ¬ zo z a 7 = -1) → l.Nodup → i + l.length = L → L ≤ 10 → l.length < k → ∃ M', F_X5_setOff_l63 (nI c) (nI L) k (nI i) M = some (nI L, M') ∧ FQ M M' ∧ rA M' 221 = zso c l z ∧ ZW (zso c l z) ∧ zn (zso c l z) = zn z := by
  intro l
  induction l with
  | nil =>
    intro i k M z hM hz hc hr hm hd hl hL hk
    obtain ⟨k, rfl⟩ : ∃ q, k = q + 1 := ⟨k - 1, by omega⟩
    simp at hl
    rw [F_X5_setOff_l63, if_pos (nI_le (by omega) (by omega))]
    exact ⟨M, rfl, FQ_refl, hM, hz, rfl⟩
  | cons f l ih =>
    intro i k M z hM hz hc hr hm hd hl hL hk
    obtain ⟨k, rfl⟩ : ∃ q, k = q + 1 := ⟨k - 1, by omega⟩
    rw [List.length_cons] at hl hk
    have hb := hz.1.2.1
    obtain ⟨hf, hkd⟩ := hm f (List.mem_cons_self ..)
    have hrf : rA M 225 i = nI f := hr 0 f rfl
    have h1 := ZW_lose hz hf
    have n1 := (Z0_lose (f := f) hz.1).2.1
    have hx := xok_of n1 (rd_xok (hz.2.1 f hf) hkd)
    obtain ⟨w1, w2⟩ := ZW_one hz hf hc hkd
    have hnd := List.nodup_cons.mp hd
    -- behind the act: the row, and the others
    have key : ∀ zz : Nat → Int32, zahead zz f c = zone z c f → ZW zz → zn zz = zn z → ∃ M', (bd (F_X5_standAhead (mz M zz) (nI f) (nI c)) fun M22 => (nm (nI i + (1 : Int32)) fun x23 => (F_X5_setOff_l63 (nI c) (nI L) k x23 M22))) = some (nI L, M') ∧ FQ M M' ∧ rA M' 221 = zso c l (zone z c f) ∧ ZW (zso c l (zone z c f)) ∧ zn (zso c l (zone z c f)) = zn z := by
      intro zz e hzz hnn
      have ha := ahead_eq (M := mz M zz) (f := f) (c := c) (by rw [mz_z]; exact hzz.1) (by rw [mz_z, hnn]; exact hf) (by rw [mz_z, hnn]; exact hc)
      rw [mz_z, mz_mz, e] at ha
      rw [ha, bd_s, nm_k, nI_1]
      obtain ⟨M', g1, g2, g3, g4, g5⟩ := ih (i + 1) k (mz M (zone z c f)) (zone z c f) mz_z w1 (by rw [w2]; exact hc) (fun j a hj => by
        rw [mz_ne (by decide), show i + 1 + j = i + (j + 1) by omega]
        exact hr (j + 1) a hj) (fun a ha => by
        obtain ⟨q1, q2⟩ := hm a (List.mem_cons_of_mem _ ha)
        refine ⟨by rw [w2]; exact q1, ?_⟩
        rw [zone_rd hz hf hc hkd (fun e => hnd.1 (by rw [← e]; exact ha))]
        exact q2) hnd.2 (by omega) hL (by omega)
      exact ⟨M', g1, FQ_trans FQ_mz g2, g3, g4, g5.trans w2⟩
    have hl2 : zo (zlose z f) f 2 = zo z f 2 := by rw [zlose_o (by decide), if_neg (fun q => absurd q.2.1 (by decide))]
    have hl11 : zo (zlose z f) f (11 + 0) = zo z f 11 := by rw [zlose_o (by decide), if_neg (fun q => absurd q.2.2 (by decide))]
    rw [F_X5_setOff_l63, if_neg (nI_ge (by omega) (by omega)), gdb_t (inb_nI (by omega) (by omega)), nI_clamp (by omega), nm_k, hrf, of_l (by omega) (by decide), bd_s, of_l (by omega) (by decide), bd_s, lose_eq (by omega), bd_s, fallen_eq (by omega), bd_s, nm_k, nm_k, hM, mz_z, hl2, zso]
    by_cases c1 : zo z f 2 = 0
    · rw [if_pos c1, if_pos (by decide), gd4, gd4, nm_k, tn4, wA_z, mz_mz, mz_z]
      exact key _ (by unfold zone; rw [if_neg (fun q => q.1 c1)]) (ZW_up h1 (by decide) (by decide)) (by rw [zn_up h1.1 (by decide) (by decide), n1])
    rw [if_neg c1, if_neg (by decide), has_l (by omega) (by decide), bd_s, mz_z, hl11]
    by_cases c2 : 0 < zo z f 11
    · rw [if_pos c2, if_pos (by decide), gd4, gd4, nm_k, tn4, wA_z, mz_mz, mz_z]
      exact key _ (by unfold zone; rw [if_neg (fun q => q.2.1 c2)]) (ZW_up h1 (by decide) (by decide)) (by rw [zn_up h1.1 (by decide) (by decide), n1])
    rw [if_neg c2, if_neg (by decide), pos_eq (by omega) (xok_10 h1.1 hx), bd_s, mz_z]
    by_cases c3 : zpos (zlose z f) f (zo z f 7) (zo z f 8) = true
    · rw [if_pos c3, if_neg (by decide), do_eq (f := f) (c := 0) (ci := 0) (by omega) (xok_10 h1.1 hx) (by decide) rfl, bd2_s, mz_mz, mz_z]
      obtain ⟨a, b⟩ := ZW_do (c := 0) (r := 0) (ri := 0) h1 (by rw [n1]; exact hf) hx (by decide) (by decide) rfl
      exact key _ (by unfold zone; rw [if_pos ⟨c1, c2, c3⟩]) a (b.trans n1)
    · rw [if_neg c3, if_pos rfl, gd4, gd4, nm_k, tn4, wA_z, mz_mz, mz_z]
      exact key _ (by unfold zone; rw [if_neg (fun q => c3 q.2.2)]) (ZW_up h1 (by decide) (by decide)) (by rw [zn_up h1.1 (by decide) (by decide), n1])
def zoff (z : Nat → Int32) (c : Nat) (kd : Int32) : Nat → Int32 := zso c (zsl z c kd (zn z)) z
theorem zset_kd {z : Nat → Int32} {f c : Nat} {kd : Int32} (h : zset z f c kd = true) : ¬ zo z f 7 = -1 := by
  unfold zset at h
  simp only [Bool.and_eq_true, decide_eq_true_eq] at h
  exact h.1.1.1
theorem setOff_eq {M : MS} {c : Nat} {kd : Int32} (hz : ZW (rA M 221)) (hc : c < zn (rA M 221)) : ∃ M', F_X5_setOff M (nI c) kd = some (nI (zsl (rA M 221) c kd (zn (rA M 221))).length, M') ∧ FQ M M' ∧ rA M' 221 = zoff (rA M 221) c kd ∧ ZW (zoff (rA M 221) c kd) ∧ zn (zoff (rA M 221) c kd) = zn (rA M 221) := by
  have hb := hz.1.2.1
  obtain ⟨M1, g1, g2, g3, g4⟩ := setOff_l (c := c) (kd := kd) hz.1 (by omega) (zn (rA M 221)) 0 FU M (by omega) (by rw [FU_s]; omega) rfl (fun j a h => by simp [zsl] at h)
  have hl := zsl_len (z := rA M 221) (c := c) (kd := kd) (zn (rA M 221))
  obtain ⟨M2, h1, h2, h3, h4, h5⟩ := setOff_m (c := c) (zsl (rA M 221) c kd (zn (rA M 221))) 0 FU M1 (rA M 221) g3 hz hc g4 (fun a ha => by
    obtain ⟨q1, i, q2, q3⟩ := zsl_mem _ ha
    exact ⟨by rw [q3]; exact (hz.1.2.2.1 i q2).2, zset_kd q1⟩) (zsl_nodup hz.1 _ (Nat.le_refl _)) (by rw [Nat.zero_add]) (by omega) (by rw [FU_s]; omega)
  exact ⟨M2, by rw [F_X5_setOff]; exact g1.trans h1, FQ_trans g2 h2, h3, h4, h5⟩
/-- an act of the one whose turn it is: what it answers, and the row before the turn ends -/
def zcan (z : Nat → Int32) (f : Nat) (kd x : Int32) : Prop := ¬ zo z f 2 = 0 ∧ zpos z f kd x = true
theorem zcan_dec (z : Nat → Int32) (f : Nat) (kd x : Int32) : zcan z f kd x ∨ ¬ zcan z f kd x := Classical.em _
noncomputable def zactR (z : Nat → Int32) (f : Nat) (kd x : Int32) (c : Nat) (r : Int32) : Int32 := if zo (zoff z f kd) f 2 = 0 then -1 else if zpos (zoff z f kd) f kd x = true then zdoR (zoff z f kd) f kd x c r else -1
noncomputable def zact1 (z : Nat → Int32) (f : Nat) (kd x : Int32) (c : Nat) (r : Int32) : Nat → Int32 := if zo (zoff z f kd) f 2 = 0 then upd (zoff z f kd) 4 (zoff z f kd 4 + 1) else if zpos (zoff z f kd) f kd x = true then zdo (zoff z f kd) f kd x c r else upd (zoff z f kd) 4 (zoff z f kd 4 + 1)
noncomputable def zact (z : Nat → Int32) (f : Nat) (kd x : Int32) (c : Nat) (r : Int32) : Nat → Int32 := zend (zact1 z f kd x c r) f
