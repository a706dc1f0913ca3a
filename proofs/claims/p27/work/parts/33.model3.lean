/-- how many turns can end at once, at most -/
def zt (z : Nat → Int32) (f : Nat) : Nat := if zo z f 2 = 0 then 0 else 1 + (zo z f 11).toNatClampNeg
def zmu (z : Nat → Int32) : Nat → Nat
  | 0 => 0
  | m + 1 => zmu z m + zt z m
theorem zmu_same {z z' : Nat → Int32} : ∀ m, (∀ g, g < m → zt z' g = zt z g) → zmu z' m = zmu z m
  | 0, _ => rfl
  | m + 1, h => by rw [zmu, zmu, zmu_same m (fun g hg => h g (by omega)), h m (by omega)]
theorem zmu_lt {z z' : Nat → Int32} {f : Nat} : ∀ m, f < m → (∀ g, g < m → g ≠ f → zt z' g = zt z g) → zt z' f < zt z f → zmu z' m < zmu z m
  | 0, h, _, _ => by omega
  | m + 1, h, hs, hl => by
    rw [zmu, zmu]
    by_cases e : f = m
    · subst e
      rw [zmu_same f (fun g hg => hs g (by omega) (by omega))]
      omega
    · have := zmu_lt m (by omega) (fun g hg hne => hs g (by omega) hne) hl
      rw [hs m (by omega) (fun q => e q.symm)]
      omega
theorem zmu_le {z : Nat → Int32} {b : Nat} : ∀ m, (∀ g, g < m → zt z g ≤ b) → zmu z m ≤ m * b
  | 0, _ => by simp [zmu]
  | m + 1, h => by
    have h1 := zmu_le (z := z) (b := b) m (fun g hg => h g (by omega))
    have h2 := h m (by omega)
    rw [zmu, Nat.succ_mul]
    omega
/-- where the turn goes: the one who comes next, and the row then -/
def znext (z : Nat → Int32) (p : Nat) : (Nat → Int32) × Int32 :=
  if znx z (zn z - p) p = -1 then (zdel (upd z 1 (z 1 + 1)) (zn z), znx (zdel (upd z 1 (z 1 + 1)) (zn z)) (zn z) 0) else (z, znx z (zn z - p) p)
def zpn (z : Nat → Int32) (f : Nat) : Nat := (zpl z (nI f) (zn z)).toNatClampNeg
def zgo : Nat → (Nat → Int32) → Nat → (Nat → Int32)
  | 0, z, _ => z
  | m + 1, z, p => if zall z (zn z) = true then upd z 2 (-1) else
      if zo (zbeg (znext z p).1 (znext z p).2.toNatClampNeg) (znext z p).2.toNatClampNeg 2 = 0 ∨ 0 < zo (zbeg (znext z p).1 (znext z p).2.toNatClampNeg) (znext z p).2.toNatClampNeg 11 then
        zgo m (zpass (zbeg (znext z p).1 (znext z p).2.toNatClampNeg) (znext z p).2.toNatClampNeg 4) (zpn (zpass (zbeg (znext z p).1 (znext z p).2.toNatClampNeg) (znext z p).2.toNatClampNeg 4) (znext z p).2.toNatClampNeg + 1)
      else zbeg (znext z p).1 (znext z p).2.toNatClampNeg
def zend (z : Nat → Int32) (f : Nat) : Nat → Int32 := zgo 100 (zpass z f 4) (zpn (zpass z f 4) f + 1)
/-- who comes next is one who can -/
theorem znext_ok {z : Nat → Int32} {p : Nat} (hz : Z0 z) (hp : p ≤ zn z) (ha : ¬ zall z (zn z) = true) : ∃ f, f < zn z ∧ (znext z p).2 = nI f ∧ Z0 (znext z p).1 ∧ zn (znext z p).1 = zn z ∧ ¬ zo (znext z p).1 f 2 = 0 ∧ zo (znext z p).1 f 6 = 0 ∧ (∀ g w, w < 17 → w ≠ 6 → zo (znext z p).1 g w = zo z g w) ∧ (∀ i, i < zn z → zrow (znext z p).1 i = zrow z i) := by
  have hb := hz.2.1
  unfold znext
  rcases znx_range hz (zn z - p) p (by omega) with ⟨h1, h2⟩ | ⟨i, h1, h2, h3, h4, h5⟩
  · rw [if_pos h1]
    obtain ⟨a1, a2, a3⟩ := Z0_up (g := 1) (x := z 1 + 1) hz (by decide) (by decide)
    obtain ⟨b1, b2, b3⟩ := Z0_del (m := zn z) a1
    have hn : zn (zdel (upd z 1 (z 1 + 1)) (zn z)) = zn z := b2.trans a2
    have ho : ∀ g w, w < 17 → zo (zdel (upd z 1 (z 1 + 1)) (zn z)) g w = if g < zn z ∧ w = 6 then 0 else zo z g w := fun g w hw => by rw [zdel_o hw, zo_lo (by decide)]
    have hr : ∀ i, i < zn z → zrow (zdel (upd z 1 (z 1 + 1)) (zn z)) i = zrow z i := fun i hi => (b3 i (by rw [a2]; exact hi)).trans (a3 i hi)
    rcases znx_range b1 (zn z) 0 (by omega) with ⟨g1, g2⟩ | ⟨i, g1, g2, g3, g4, g5⟩
    · exfalso
      refine ha ((zall_iff _).mpr (fun f hf => ?_))
      obtain ⟨i, hi, e⟩ := zrow_onto hz hf
      have h6 := g2 i (by omega) (by omega)
      rw [hr i hi, e, ho f 2 (by decide), ho f 6 (by decide), if_neg (by omega), if_pos ⟨hf, rfl⟩] at h6
      exact Classical.byContradiction (fun q => h6 ⟨q, rfl⟩)
    · rw [hn] at g2
      have hf := (hz.2.2.1 i g2).2
      refine ⟨zrow z i, hf, by rw [g3, hr i g2], b1, hn, by rw [← hr i g2]; exact g4, by rw [← hr i g2]; exact g5, fun g w hw hne => ?_, hr⟩
      rw [ho g w hw, if_neg (fun q => hne q.2)]
  · rw [if_neg (by rw [h3]; exact ne1 _ (by have := (hz.2.2.1 i h2).2; omega))]
    exact ⟨zrow z i, (hz.2.2.1 i h2).2, h3, hz, rfl, h4, h5, fun _ _ _ _ => rfl, fun _ _ => rfl⟩
theorem zpn_lt {z : Nat → Int32} (hz : Z0 z) {f : Nat} (hf : f < zn z) : zpn z f < zn z ∧ zpl z (nI f) (zn z) = nI (zpn z f) ∧ zrow z (zpn z f) = f := by
  have hb := hz.2.1
  obtain ⟨i, hi, e⟩ := zrow_onto hz hf
  have h := zpl_at hz hi
  rw [e] at h
  unfold zpn
  rw [h, nI_clamp (by omega)]
  exact ⟨hi, rfl, e⟩
theorem z_pos {x : Int32} (h : 0 < x) : (x - 1).toNatClampNeg < x.toNatClampNeg := by
  obtain ⟨j, hj, rfl⟩ := nI_of (x := x) (fun q => absurd h (Int32.not_lt.mpr (Int32.le_of_lt q)))
  obtain ⟨k, rfl⟩ : ∃ k, j = k + 1 := by
    refine ⟨j - 1, ?_⟩
    rcases Nat.eq_zero_or_pos j with e | e
    · subst e; exact absurd h (by decide)
    · omega
  rw [nI_pred, nI_clamp (by omega), nI_clamp hj]
  omega
/-- one round of it: fewer turns can end at once than before -/
theorem zgo_step {z : Nat → Int32} {p : Nat} (hz : Z0 z) (hp : p ≤ zn z) (ha : ¬ zall z (zn z) = true) {f : Nat} (hf : f < zn z) (hn : (znext z p).2 = nI f) (h1 : ¬ zo (znext z p).1 f 2 = 0) (hz1 : Z0 (znext z p).1) (ho : ∀ g w, w < 17 → w ≠ 6 → zo (znext z p).1 g w = zo z g w)
    (hc : zo (zbeg (znext z p).1 f) f 2 = 0 ∨ 0 < zo (zbeg (znext z p).1 f) f 11) : zmu (zpass (zbeg (znext z p).1 f) f 4) (zn z) < zmu z (zn z) := by
  have hother : ∀ g, g ≠ f → zt (zpass (zbeg (znext z p).1 f) f 4) g = zt z g := fun g hg => by
    have a2 : zo (zpass (zbeg (znext z p).1 f) f 4) g 2 = zo z g 2 := by rw [zpass_o (by decide) 4 (by decide), if_neg (fun q => hg q.1), zbeg_o (by decide), if_neg (fun q => hg q.1), if_neg (fun q => hg q.1), ho g 2 (by decide) (by decide)]
    have a11 : zo (zpass (zbeg (znext z p).1 f) f 4) g 11 = zo z g 11 := by rw [zpass_o (by decide) 4 (by decide), if_neg (fun q => hg q.1), zbeg_o (by decide), if_neg (fun q => hg q.1), if_neg (fun q => hg q.1), ho g 11 (by decide) (by decide)]
    unfold zt
    rw [a2, a11]
  refine zmu_lt (zn z) hf (fun g _ hg => hother g hg) ?_
  have e2 : zo z f 2 = zo (znext z p).1 f 2 := (ho f 2 (by decide) (by decide)).symm
  have e11 : zo z f 11 = zo (znext z p).1 f 11 := (ho f 11 (by decide) (by decide)).symm
  have hp2 : zo (zpass (zbeg (znext z p).1 f) f 4) f 2 = zo (zbeg (znext z p).1 f) f 2 := by rw [zpass_o (by decide) 4 (by decide), if_neg (by omega)]
  have hp11 : zo (zpass (zbeg (znext z p).1 f) f 4) f 11 = if 0 < zo (zbeg (znext z p).1 f) f 11 then zo (zbeg (znext z p).1 f) f 11 - 1 else 0 := by rw [zpass_o (by decide) 4 (by decide), if_pos ⟨rfl, by decide, by decide⟩]
  have hb11 : zo (zbeg (znext z p).1 f) f 11 = zo z f 11 := by rw [zbeg_o (by decide), if_neg (by omega), if_neg (by omega), e11]
  unfold zt
  rw [hp2, hp11, hb11, if_neg (show ¬ zo z f 2 = 0 by rw [e2]; exact h1)]
  by_cases q : zo (zbeg (znext z p).1 f) f 2 = 0
  · rw [if_pos q]; omega
  · rw [if_neg q]
    rcases hc with h | h
    · exact absurd h q
    · rw [hb11] at h
      rw [if_pos h]
      have := z_pos h
      omega
