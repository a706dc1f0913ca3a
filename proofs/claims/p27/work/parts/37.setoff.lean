/-! what is set off; an act -/
def FQ (M M1 : MS) : Prop := (∀ c v, (c ≠ 88 ∨ v ≠ 220) → rF M1 c v = rF M c v) ∧ (∀ v, v ≠ 221 → v ≠ 225 → rA M1 v = rA M v) ∧ M1.2.2 = M.2.2
theorem FQ_refl {M : MS} : FQ M M := ⟨fun _ _ _ => rfl, fun _ _ _ => rfl, rfl⟩
theorem FQ_trans {M M1 M2 : MS} (h1 : FQ M M1) (h2 : FQ M1 M2) : FQ M M2 := ⟨fun c v h => (h2.1 c v h).trans (h1.1 c v h), fun v a b => (h2.2.1 v a b).trans (h1.2.1 v a b), h2.2.2.trans h1.2.2⟩
theorem rA_wA {M : MS} {v i : Nat} {x : Int32} : rA (wA M v i x) v = upd (rA M v) i x := by simp [rA, wA]
theorem rA_wAn {M : MS} {v u i : Nat} {x : Int32} (h : u ≠ v) : rA (wA M v i x) u = rA M u := by simp [rA, wA, h]
theorem FQ_A {M : MS} {v i : Nat} {x : Int32} (hv : v = 225) : FQ M (wA M v i x) := ⟨fun _ _ _ => rfl, fun u h1 h2 => rA_wAn (by omega), rfl⟩
theorem FQ_88 {M : MS} {x : Int32} : FQ M (wF M 88 220 x) := ⟨fun c v h => by unfold wF rF; exact if_neg (by omega), fun _ _ _ => rfl, rfl⟩
/-- who is set off, in the order of the row -/
def zsl (z : Nat → Int32) (c : Nat) (kd : Int32) : Nat → List Nat
  | 0 => []
  | m + 1 => if zset z (zrow z m) c kd = true then zsl z c kd m ++ [zrow z m] else zsl z c kd m
theorem zsl_len {z : Nat → Int32} {c : Nat} {kd : Int32} : ∀ m, (zsl z c kd m).length ≤ m
  | 0 => Nat.le_refl _
  | m + 1 => by
    have := zsl_len (z := z) (c := c) (kd := kd) m
    rw [zsl]
    split
    · rw [List.length_append, List.length_singleton]; omega
    · omega
theorem zsl_mem {z : Nat → Int32} {c : Nat} {kd : Int32} {a : Nat} : ∀ m, a ∈ zsl z c kd m → zset z a c kd = true ∧ ∃ i, i < m ∧ a = zrow z i
  | 0, h => by simp [zsl] at h
  | m + 1, h => by
    rw [zsl] at h
    split at h
    · rename_i hs
      rcases List.mem_append.mp h with h | h
      · obtain ⟨h1, i, h2, h3⟩ := zsl_mem m h
        exact ⟨h1, i, by omega, h3⟩
      · rw [List.mem_singleton] at h
        subst h
        exact ⟨hs, m, by omega, rfl⟩
    · obtain ⟨h1, i, h2, h3⟩ := zsl_mem m h
      exact ⟨h1, i, by omega, h3⟩
theorem zsl_nodup {z : Nat → Int32} {c : Nat} {kd : Int32} (hz : Z0 z) : ∀ m, m ≤ zn z → (zsl z c kd m).Nodup
  | 0, _ => List.nodup_nil
  | m + 1, h => by
    have ih := zsl_nodup (c := c) (kd := kd) hz m (by omega)
    rw [zsl]
    split
    · rw [List.nodup_append]
      refine ⟨ih, by simp, fun a ha b hb e => ?_⟩
      rw [List.mem_singleton] at hb
      obtain ⟨_, i, h2, h3⟩ := zsl_mem m ha
      have := hz.2.2.2 i m (by omega) (by omega) (by rw [← h3, e, hb])
      omega
    · exact ih
def inRdy (M : MS) (i : Nat) (l : List Nat) : Prop := ∀ j a, l[j]? = some a → rA M 225 (i + j) = nI a
/-- one act that is set off -/
def zone (z : Nat → Int32) (c f : Nat) : Nat → Int32 :=
  zahead (if ¬ zo z f 2 = 0 ∧ ¬ 0 < zo z f 11 ∧ zpos (zlose z f) f (zo z f 7) (zo z f 8) = true then zdo (zlose z f) f (zo z f 7) (zo z f 8) 0 0 else upd (zlose z f) 4 (zlose z f 4 + 1)) f c
theorem rd_ok {z : Nat → Int32} {f : Nat} (hf : fw z f) (h : ¬ zo z f 7 = -1) : (zo z f 7 = 0 ∨ zo z f 7 = 2) ∧ ∃ g, g < zn z ∧ zo z f 8 = nI g := by
  rcases hf.2.2.2.2.2.2.1 with q | ⟨q1, q2, _⟩
  · exact absurd q.1 h
  · exact ⟨q1, q2⟩
theorem rd_xok {z : Nat → Int32} {f : Nat} (hf : fw z f) (h : ¬ zo z f 7 = -1) : xok z (zo z f 7) (zo z f 8) := by
  obtain ⟨h1, h2⟩ := rd_ok hf h
  refine Or.inr ⟨?_, h2⟩
  rcases h1 with h1 | h1 <;> rw [h1] <;> decide
theorem ZW_one {z : Nat → Int32} {c f : Nat} (hz : ZW z) (hf : f < zn z) (hc : c < zn z) (hk : ¬ zo z f 7 = -1) : ZW (zone z c f) ∧ zn (zone z c f) = zn z := by
  have h1 := ZW_lose hz hf
  have n1 := (Z0_lose (f := f) hz.1).2.1
  have hx := xok_of n1 (rd_xok (hz.2.1 f hf) hk)
  unfold zone
  split
  · obtain ⟨a, b⟩ := ZW_do (c := 0) (r := 0) (ri := 0) h1 (by rw [n1]; exact hf) hx (by decide) (by decide) rfl
    obtain ⟨c1, c2⟩ := ZW_ahead (f := f) (c := c) a (by rw [b, n1]; exact hf) (by rw [b, n1]; exact hc)
    exact ⟨c1, by rw [c2, b, n1]⟩
  · have a := ZW_up (g := 4) (x := zlose z f 4 + 1) h1 (by decide) (by decide)
    have b := zn_up (g := 4) (x := zlose z f 4 + 1) h1.1 (by decide) (by decide)
    obtain ⟨c1, c2⟩ := ZW_ahead (f := f) (c := c) a (by rw [b, n1]; exact hf) (by rw [b, n1]; exact hc)
    exact ⟨c1, by rw [c2, b, n1]⟩
theorem zone_rd {z : Nat → Int32} {c f g : Nat} (hz : ZW z) (hf : f < zn z) (hc : c < zn z) (hk : ¬ zo z f 7 = -1) (hg : g ≠ f) : zo (zone z c f) g 7 = zo z g 7 := by
  have h1 := ZW_lose hz hf
  have n1 := (Z0_lose (f := f) hz.1).2.1
  have hx := xok_of n1 (rd_xok (hz.2.1 f hf) hk)
  have e : zo (zlose z f) g 7 = zo z g 7 := by rw [zlose_o (by decide), if_neg (fun q => hg q.1)]
  unfold zone
  split
  · obtain ⟨a, b⟩ := ZW_do (c := 0) (r := 0) (ri := 0) h1 (by rw [n1]; exact hf) hx (by decide) (by decide) rfl
    rw [ahead_o a.1 (by rw [b, n1]; exact hf) (by rw [b, n1]; exact hc) (by decide), if_neg (fun q => hg q.1), zdo_rd (by decide) (by decide), e]
  · have a := ZW_up (g := 4) (x := zlose z f 4 + 1) h1 (by decide) (by decide)
    have b := zn_up (g := 4) (x := zlose z f 4 + 1) h1.1 (by decide) (by decide)
    rw [ahead_o a.1 (by rw [b, n1]; exact hf) (by rw [b, n1]; exact hc) (by decide), if_neg (fun q => hg q.1), zo_lo (by decide), e]
def zso (c : Nat) : List Nat → (Nat → Int32) → (Nat → Int32)
  | [], z => z
  | f :: l, z => zso c l (zone z c f)
def zoff (z : Nat → Int32) (c : Nat) (kd : Int32) : Nat → Int32 := zso c (zsl z c kd (zn z)) z
theorem zset_kd {z : Nat → Int32} {f c : Nat} {kd : Int32} (h : zset z f c kd = true) : ¬ zo z f 7 = -1 := by
  unfold zset at h
  simp only [Bool.and_eq_true, decide_eq_true_eq] at h
  exact h.1.1.1
/-- an act of the one whose turn it is: what it answers, and the row before the turn ends -/
def zcan (z : Nat → Int32) (f : Nat) (kd x : Int32) : Prop := ¬ zo z f 2 = 0 ∧ zpos z f kd x = true
theorem zcan_dec (z : Nat → Int32) (f : Nat) (kd x : Int32) : zcan z f kd x ∨ ¬ zcan z f kd x := Classical.em _
noncomputable def zactR (z : Nat → Int32) (f : Nat) (kd x : Int32) (c : Nat) (r : Int32) : Int32 := if zo (zoff z f kd) f 2 = 0 then -1 else if zpos (zoff z f kd) f kd x = true then zdoR (zoff z f kd) f kd x c r else -1
noncomputable def zact1 (z : Nat → Int32) (f : Nat) (kd x : Int32) (c : Nat) (r : Int32) : Nat → Int32 := if zo (zoff z f kd) f 2 = 0 then upd (zoff z f kd) 4 (zoff z f kd 4 + 1) else if zpos (zoff z f kd) f kd x = true then zdo (zoff z f kd) f kd x c r else upd (zoff z f kd) 4 (zoff z f kd 4 + 1)
noncomputable def zact (z : Nat → Int32) (f : Nat) (kd x : Int32) (c : Nat) (r : Int32) : Nat → Int32 := zend (zact1 z f kd x c r) f

