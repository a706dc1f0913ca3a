/-! looks: the class's and the model's -/
theorem add0 {x : Int32} : x + 0 = x := Int32.add_zero _
/-- how many there are of a kind -/
def zct (p : Nat → Bool) : Nat → Nat
  | 0 => 0
  | m + 1 => if p m = true then zct p m + 1 else zct p m
theorem zct_le {p : Nat → Bool} : ∀ m, zct p m ≤ m
  | 0 => Nat.le_refl _
  | m + 1 => by
    have := zct_le (p := p) m
    rw [zct]
    split <;> omega
def pdl (z : Nat → Int32) (f : Nat) : Bool := decide (zo z f 6 = 1) && decide (¬ zo z f 2 = 0)
def prd (z : Nat → Int32) (f : Nat) : Bool := decide (¬ zo z f 7 = -1) && decide (¬ zo z f 2 = 0)
def zlf (z : Nat → Int32) (s : Int32) : Nat → Nat
  | 0 => 0
  | m + 1 => zlf z s m + (if zo z m 0 = s then (zo z m 2).toNatClampNeg else 0)
theorem zlf_le {z : Nat → Int32} {s : Int32} (hz : ZW z) : ∀ m, m ≤ zn z → zlf z s m ≤ 99 * m
  | 0, _ => Nat.le_refl _
  | m + 1, h => by
    have h1 := zlf_le (s := s) hz m (by omega)
    obtain ⟨l, hl, e⟩ := (hz.2.1 m (by omega)).2.1
    rw [zlf, e, nI_clamp (by omega)]
    split <;> omega

theorem cdl_l {M : MS} {v : Nat} {z : Nat → Int32}  (hz : ZW z) (h : CZ M v z) : ∀ d i k, i + d = zn z → d < k → F_X3_delaying_l4 v M k (nI (zct (pdl z) i)) (nI i) = some (nI (zct (pdl z) (zn z))) := by
  have hb := hz.1.2.1
  intro d
  induction d with
  | zero =>
    intro i k hi hk
    obtain ⟨k, rfl⟩ : ∃ q, k = q + 1 := ⟨k - 1, by omega⟩
    have e : i = zn z := by omega
    subst e
    rw [F_X3_delaying_l4, h.1.1, if_pos ((z0_le hz.1 (by omega)).mpr (by omega))]
  | succ d ih =>
    intro i k hi hk
    obtain ⟨k, rfl⟩ : ∃ q, k = q + 1 := ⟨k - 1, by omega⟩
    have ih' := ih (i + 1) k (by omega) (by omega)
    rw [zct] at ih'
    rw [F_X3_delaying_l4, h.1.1, if_neg (fun q => by have := (z0_le hz.1 (by omega)).mp q; omega), at_l hz.1 h (by omega), bd_s]
    rw [f_del h (by omega)]
    unfold pdl at ih'
    by_cases c1 : zo z i 6 = 0
    · rw [if_pos c1, nm_k, nI_1]
      rw [if_neg (by simp [c1])] at ih'
      exact ih'
    · have c1' : zo z i 6 = 1 := (hz.2.1 i (by omega)).2.2.2.2.2.1.resolve_left c1
      rw [if_neg c1, bd_s, fal_l h (by omega) (hz.2.1 i (by omega)), bd_s]
      by_cases c2 : zo z i 2 = 0
      · rw [if_pos c2, if_pos (by decide), nm_k, nI_1]
        rw [if_neg (by simp [c2])] at ih'
        exact ih'
      · rw [if_neg c2, if_neg (by decide), nm_k, nm_k, nI_1, nI_1]
        rw [if_pos (by simp [c1', c2])] at ih'
        exact ih'
theorem cdl_eq {M : MS} {v : Nat} {z : Nat → Int32}  (hz : ZW z) (h : CZ M v z) : F_X3_delaying M v = some (nI (zct (pdl z) (zn z))) := by
  have hb := hz.1.2.1
  rw [F_X3_delaying]
  exact cdl_l hz h (zn z) 0 FU (by omega) (by rw [FU_s]; omega)

theorem crd_l {M : MS} {v : Nat} {z : Nat → Int32}  (hz : ZW z) (h : CZ M v z) : ∀ d i k, i + d = zn z → d < k → F_X3_readying_l4 v M k (nI (zct (prd z) i)) (nI i) = some (nI (zct (prd z) (zn z))) := by
  have hb := hz.1.2.1
  intro d
  induction d with
  | zero =>
    intro i k hi hk
    obtain ⟨k, rfl⟩ : ∃ q, k = q + 1 := ⟨k - 1, by omega⟩
    have e : i = zn z := by omega
    subst e
    rw [F_X3_readying_l4, h.1.1, if_pos ((z0_le hz.1 (by omega)).mpr (by omega))]
  | succ d ih =>
    intro i k hi hk
    obtain ⟨k, rfl⟩ : ∃ q, k = q + 1 := ⟨k - 1, by omega⟩
    have ih' := ih (i + 1) k (by omega) (by omega)
    rw [zct] at ih'
    rw [F_X3_readying_l4, h.1.1, if_neg (fun q => by have := (z0_le hz.1 (by omega)).mp q; omega), at_l hz.1 h (by omega), bd_s]
    rw [F_X0_hasReadied, f_rk h (by omega)]
    unfold prd at ih'
    by_cases c1 : zo z i 7 = -1
    · rw [if_pos c1, bd_s, if_pos rfl, nm_k, nI_1]
      rw [if_neg (by simp [c1])] at ih'
      exact ih'
    · rw [if_neg c1, bd_s, if_neg (by decide), bd_s, fal_l h (by omega) (hz.2.1 i (by omega)), bd_s]
      by_cases c2 : zo z i 2 = 0
      · rw [if_pos c2, if_pos (by decide), nm_k, nI_1]
        rw [if_neg (by simp [c2])] at ih'
        exact ih'
      · rw [if_neg c2, if_neg (by decide), nm_k, nm_k, nI_1, nI_1]
        rw [if_pos (by simp [c1, c2])] at ih'
        exact ih'
theorem crd_eq {M : MS} {v : Nat} {z : Nat → Int32}  (hz : ZW z) (h : CZ M v z) : F_X3_readying M v = some (nI (zct (prd z) (zn z))) := by
  have hb := hz.1.2.1
  rw [F_X3_readying]
  exact crd_l hz h (zn z) 0 FU (by omega) (by rw [FU_s]; omega)

theorem clf_l {M : MS} {v : Nat} {z : Nat → Int32} {s : Int32} (hz : ZW z) (h : CZ M v z) : ∀ d i k, i + d = zn z → d < k → F_X3_lifeOf_l4 v s M k (nI (zlf z s i)) (nI i) = some (nI (zlf z s (zn z))) := by
  have hb := hz.1.2.1
  intro d
  induction d with
  | zero =>
    intro i k hi hk
    obtain ⟨k, rfl⟩ : ∃ q, k = q + 1 := ⟨k - 1, by omega⟩
    have e : i = zn z := by omega
    subst e
    rw [F_X3_lifeOf_l4, h.1.1, if_pos ((z0_le hz.1 (by omega)).mpr (by omega))]
  | succ d ih =>
    intro i k hi hk
    obtain ⟨k, rfl⟩ : ∃ q, k = q + 1 := ⟨k - 1, by omega⟩
    have ih' := ih (i + 1) k (by omega) (by omega)
    rw [zlf] at ih'
    rw [F_X3_lifeOf_l4, h.1.1, if_neg (fun q => by have := (z0_le hz.1 (by omega)).mp q; omega), at_l hz.1 h (by omega), bd_s]
    obtain ⟨l, hl, e⟩ := (hz.2.1 i (by omega)).2.1
    rw [f_side h (by omega)]
    rw [e, nI_clamp (by omega)] at ih'
    by_cases c1 : zo z i 0 = s
    · rw [if_neg (fun q => q c1), bd_s, f_life h (by omega), e, nm_k, nm_k, nI_add, nI_1]
      rw [if_pos c1] at ih'
      exact ih'
    · rw [if_pos c1, nm_k, nI_1]
      rw [if_neg c1, Nat.add_zero] at ih'
      exact ih'
theorem clf_eq {M : MS} {v : Nat} {z : Nat → Int32} {s : Int32} (hz : ZW z) (h : CZ M v z) : F_X3_lifeOf M v s = some (nI (zlf z s (zn z))) := by
  have hb := hz.1.2.1
  rw [F_X3_lifeOf]
  exact clf_l hz h (zn z) 0 FU (by omega) (by rw [FU_s]; omega)

def zstat (z : Nat → Int32) (f : Nat) : Int32 := if zo z f 2 = 0 then 3 else if zo z f 6 = 1 then 1 else if zo z f 7 = -1 then 0 else 2
def ztold (z : Nat → Int32) (f w : Nat) : Int32 := if w < 6 then zo z f w else if w = 6 then nI (zpn z f) else if w = 7 then zstat z f else if w < 12 then zo z f (11 + (w - 8)) else zo z f (15 + (w - 12))
theorem stat_l {M : MS} {v f : Nat} {z : Nat → Int32} (h : CZ M v z) (hz : ZW z) (hf : f < zn z) : F_X0_status M (v + 1 + 4 + f) = some (zstat z f) := by
  rw [F_X0_status, fal_l h hf (hz.2.1 f hf), bd_s, f_del h hf]
  unfold zstat
  by_cases c2 : zo z f 2 = 0
  · rw [if_pos c2, if_neg (by decide), if_pos c2]
  rw [if_neg c2, if_pos rfl, if_neg c2]
  rcases (hz.2.1 f hf).2.2.2.2.2.1 with c6 | c6
  · rw [if_pos c6, F_X0_hasReadied, f_rk h hf, c6, if_neg i01]
    by_cases c7 : zo z f 7 = -1
    · rw [if_pos c7, if_pos c7, bd_s, if_pos rfl]
    · rw [if_neg c7, if_neg c7, bd_s, if_neg i10]
  · rw [c6, if_neg i10, if_pos rfl]
theorem prop_l {M : MS} {v f w : Nat} {z : Nat → Int32} (h : CZ M v z) (hz : ZW z) (hf : f < zn z) (hw : w ≤ 13) : F_X3_property M v (nI f) (nI w) = some (ztold z f w) := by
  rw [F_X3_property, at_l hz.1 h hf, bd_s]
  rcases (show w = 0 ∨ w = 1 ∨ w = 2 ∨ w = 3 ∨ w = 4 ∨ w = 5 ∨ w = 6 ∨ w = 7 ∨ w = 8 ∨ w = 9 ∨ w = 10 ∨ w = 11 ∨ w = 12 ∨ w = 13 by omega) with rfl | rfl | rfl | rfl | rfl | rfl | rfl | rfl | rfl | rfl | rfl | rfl | rfl | rfl
  · rw [if_pos (by decide), f_side h hf]; rfl
  · rw [if_neg (by decide), if_pos (by decide), f_init h hf]; rfl
  · rw [if_neg (by decide), if_neg (by decide), if_pos (by decide), f_life h hf]; rfl
  · rw [if_neg (by decide), if_neg (by decide), if_neg (by decide), if_pos (by decide), f_full h hf]; rfl
  · rw [if_neg (by decide), if_neg (by decide), if_neg (by decide), if_neg (by decide), if_pos (by decide), f_force h hf]; rfl
  · rw [if_neg (by decide), if_neg (by decide), if_neg (by decide), if_neg (by decide), if_neg (by decide), if_pos (by decide), f_place h hf]; rfl
  · rw [if_neg (by decide), if_neg (by decide), if_neg (by decide), if_neg (by decide), if_neg (by decide), if_neg (by decide), if_pos (by decide), cplace_eq hz.1 h hf, bd_s]; rfl
  · rw [if_neg (by decide), if_neg (by decide), if_neg (by decide), if_neg (by decide), if_neg (by decide), if_neg (by decide), if_neg (by decide), if_pos (by decide), stat_l h hz hf, bd_s]; rfl
  · rw [if_neg (by decide), if_neg (by decide), if_neg (by decide), if_neg (by decide), if_neg (by decide), if_neg (by decide), if_neg (by decide), if_neg (by decide), if_neg (by decide), if_neg (by decide), rnd_e h hf (c := 0) (by decide) (by decide), bd_s]; rfl
  · rw [if_neg (by decide), if_neg (by decide), if_neg (by decide), if_neg (by decide), if_neg (by decide), if_neg (by decide), if_neg (by decide), if_neg (by decide), if_neg (by decide), if_neg (by decide), rnd_e h hf (c := 1) (by decide) (by decide), bd_s]; rfl
  · rw [if_neg (by decide), if_neg (by decide), if_neg (by decide), if_neg (by decide), if_neg (by decide), if_neg (by decide), if_neg (by decide), if_neg (by decide), if_neg (by decide), if_neg (by decide), rnd_e h hf (c := 2) (by decide) (by decide), bd_s]; rfl
  · rw [if_neg (by decide), if_neg (by decide), if_neg (by decide), if_neg (by decide), if_neg (by decide), if_neg (by decide), if_neg (by decide), if_neg (by decide), if_neg (by decide), if_neg (by decide), rnd_e h hf (c := 3) (by decide) (by decide), bd_s]; rfl
  · rw [if_neg (by decide), if_neg (by decide), if_neg (by decide), if_neg (by decide), if_neg (by decide), if_neg (by decide), if_neg (by decide), if_neg (by decide), if_pos (by decide), f_acts h hf]; rfl
  · rw [if_neg (by decide), if_neg (by decide), if_neg (by decide), if_neg (by decide), if_neg (by decide), if_neg (by decide), if_neg (by decide), if_neg (by decide), if_neg (by decide), if_pos (by decide), f_taken h hf]; rfl
def zcount (z : Nat → Int32) (m : Int32) (w : Nat) : Int32 := if w < 3 then z w else if w = 3 then nI (zst z 0 (zn z)) else if w = 4 then nI (zst z 1 (zn z)) else if w = 5 then nI (zct (pdl z) (zn z)) else if w = 6 then nI (zct (prd z) (zn z)) else if w < 10 then z (3 + (w - 7)) else if w = 10 then nI (zlf z 0 (zn z)) else if w = 11 then nI (zlf z 1 (zn z)) else m
theorem ccount_l {M : MS} {w : Nat} {z : Nat → Int32} (h : CZ M 0 z) (hz : ZW z) (hw : w ≤ 12) : F_X4_counted M (nI w) = some (zcount z (rF M 67 216) w) := by
  obtain ⟨⟨a0, a1, a2, a3, a4, a5⟩, _⟩ := id h
  rw [F_X4_counted]
  rcases (show w = 0 ∨ w = 1 ∨ w = 2 ∨ w = 3 ∨ w = 4 ∨ w = 5 ∨ w = 6 ∨ w = 7 ∨ w = 8 ∨ w = 9 ∨ w = 10 ∨ w = 11 ∨ w = 12 by omega) with rfl | rfl | rfl | rfl | rfl | rfl | rfl | rfl | rfl | rfl | rfl | rfl | rfl
  · rw [if_pos (by decide), F_X3_counted, if_pos (by decide), a0, bd_s]; rfl
  · rw [if_pos (by decide), F_X3_counted, if_neg (by decide), if_pos (by decide), a1, bd_s]; rfl
  · rw [if_pos (by decide), F_X3_counted, if_neg (by decide), if_neg (by decide), if_pos (by decide), a2, bd_s]; rfl
  · rw [if_pos (by decide), F_X3_counted, if_neg (by decide), if_neg (by decide), if_neg (by decide), if_pos (by decide), cst_eq hz h, bd_s, bd_s]; rfl
  · rw [if_pos (by decide), F_X3_counted, if_neg (by decide), if_neg (by decide), if_neg (by decide), if_neg (by decide), if_pos (by decide), cst_eq hz h, bd_s, bd_s]; rfl
  · rw [if_pos (by decide), F_X3_counted, if_neg (by decide), if_neg (by decide), if_neg (by decide), if_neg (by decide), if_neg (by decide), if_pos (by decide), cdl_eq hz h, bd_s, bd_s]; rfl
  · rw [if_pos (by decide), F_X3_counted, if_neg (by decide), if_neg (by decide), if_neg (by decide), if_neg (by decide), if_neg (by decide), if_neg (by decide), if_pos (by decide), crd_eq hz h, bd_s, bd_s]; rfl
  · rw [if_pos (by decide), F_X3_counted, if_neg (by decide), if_neg (by decide), if_neg (by decide), if_neg (by decide), if_neg (by decide), if_neg (by decide), if_neg (by decide), if_pos (by decide), a3, bd_s]; rfl
  · rw [if_pos (by decide), F_X3_counted, if_neg (by decide), if_neg (by decide), if_neg (by decide), if_neg (by decide), if_neg (by decide), if_neg (by decide), if_neg (by decide), if_neg (by decide), if_pos (by decide), a4, bd_s]; rfl
  · rw [if_pos (by decide), F_X3_counted, if_neg (by decide), if_neg (by decide), if_neg (by decide), if_neg (by decide), if_neg (by decide), if_neg (by decide), if_neg (by decide), if_neg (by decide), if_neg (by decide), if_pos (by decide), a5, bd_s]; rfl
  · rw [if_pos (by decide), F_X3_counted, if_neg (by decide), if_neg (by decide), if_neg (by decide), if_neg (by decide), if_neg (by decide), if_neg (by decide), if_neg (by decide), if_neg (by decide), if_neg (by decide), if_neg (by decide), if_pos (by decide), clf_eq hz h, bd_s, bd_s]; rfl
  · rw [if_pos (by decide), F_X3_counted, if_neg (by decide), if_neg (by decide), if_neg (by decide), if_neg (by decide), if_neg (by decide), if_neg (by decide), if_neg (by decide), if_neg (by decide), if_neg (by decide), if_neg (by decide), if_neg (by decide), clf_eq hz h, bd_s, bd_s]; rfl
  · rw [if_neg (by decide)]; rfl
/-- readied, and who stands in a place -/
theorem ofr_l {M : MS} {v f w : Nat} {z : Nat → Int32} (h : CZ M v z) (hf : f < zn z) (hw : w ≤ 3) : F_X0_ofReadied M (v + 1 + 4 + f) (nI w) = some (zo z f (7 + w)) := by
  rw [F_X0_ofReadied]
  rcases (show w = 0 ∨ w = 1 ∨ w = 2 ∨ w = 3 by omega) with rfl | rfl | rfl | rfl
  · rw [if_pos (by decide), f_rk h hf]
  · rw [if_neg (by decide), if_pos (by decide), f_rg h hf]
  · rw [if_neg (by decide), if_neg (by decide), if_pos (by decide), f_rw h hf]
  · rw [if_neg (by decide), if_neg (by decide), if_neg (by decide), f_rc h hf]
/-- how many are set off: counted by numbers, or along the row -/
def zfl (z : Nat → Int32) (c : Nat) (kd : Int32) : Nat → List Nat
  | 0 => []
  | m + 1 => if zset z m c kd = true then zfl z c kd m ++ [m] else zfl z c kd m
theorem zfl_mem {z : Nat → Int32} {c : Nat} {kd : Int32} {a : Nat} : ∀ m, a ∈ zfl z c kd m ↔ a < m ∧ zset z a c kd = true
  | 0 => by simp [zfl]
  | m + 1 => by
    rw [zfl]
    by_cases hs : zset z m c kd = true
    · rw [if_pos hs, List.mem_append, zfl_mem m, List.mem_singleton]
      constructor
      · rintro (⟨h1, h2⟩ | rfl)
        · exact ⟨by omega, h2⟩
        · exact ⟨by omega, hs⟩
      · rintro ⟨h1, h2⟩
        by_cases e : a = m
        · exact Or.inr e
        · exact Or.inl ⟨by omega, h2⟩
    · rw [if_neg hs, zfl_mem m]
      constructor
      · rintro ⟨h1, h2⟩; exact ⟨by omega, h2⟩
      · rintro ⟨h1, h2⟩
        refine ⟨?_, h2⟩
        by_cases e : a = m
        · rw [e] at h2; exact absurd h2 hs
        · omega
theorem zfl_nodup {z : Nat → Int32} {c : Nat} {kd : Int32} : ∀ m, (zfl z c kd m).Nodup
  | 0 => List.nodup_nil
  | m + 1 => by
    rw [zfl]
    split
    · rw [List.nodup_append]
      refine ⟨zfl_nodup m, by simp, fun a ha b hb e => ?_⟩
      rw [List.mem_singleton] at hb
      have := ((zfl_mem m).mp ha).1
      omega
    · exact zfl_nodup m
theorem nodup_le : ∀ (l1 l2 : List Nat), l1.Nodup → (∀ a, a ∈ l1 → a ∈ l2) → l1.length ≤ l2.length
  | [], _, _, _ => Nat.zero_le _
  | a :: l, l2, hd, hs => by
    obtain ⟨h1, h2⟩ := List.nodup_cons.mp hd
    have ha : a ∈ l2 := hs a (List.mem_cons_self ..)
    have h3 := nodup_le l (l2.erase a) h2 (fun b hb => by
      rw [List.mem_erase_of_ne (fun e => h1 (by rw [← e]; exact hb))]
      exact hs b (List.mem_cons_of_mem _ hb))
    have h4 := List.length_erase_of_mem ha
    have h5 : 0 < l2.length := List.length_pos_of_mem ha
    rw [List.length_cons]
    omega
theorem zfl_zsl {z : Nat → Int32} {c : Nat} {kd : Int32} (hz : Z0 z) : (zfl z c kd (zn z)).length = (zsl z c kd (zn z)).length := by
  refine Nat.le_antisymm (nodup_le _ _ (zfl_nodup _) (fun a ha => ?_)) (nodup_le _ _ (zsl_nodup hz _ (Nat.le_refl _)) (fun a ha => ?_))
  · obtain ⟨h1, h2⟩ := (zfl_mem _).mp ha
    obtain ⟨i, hi, rfl⟩ := zrow_onto hz h1
    have key : ∀ m, i < m → zrow z i ∈ zsl z c kd m := by
      intro m
      induction m with
      | zero => intro h; omega
      | succ m ih =>
        intro h
        rw [zsl]
        by_cases e : i = m
        · subst e
          rw [if_pos h2, List.mem_append, List.mem_singleton]
          exact Or.inr rfl
        · split
          · rw [List.mem_append]; exact Or.inl (ih (by omega))
          · exact ih (by omega)
    exact key _ hi
  · obtain ⟨h1, i, hi, rfl⟩ := zsl_mem _ ha
    exact (zfl_mem _).mpr ⟨(hz.2.2.1 i hi).2, h1⟩
theorem cnum_l {M : MS} {v c : Nat} {z : Nat → Int32} {kd : Int32} (hz : ZW z) (h : CZ M v z) (hc : c < zn z) (ht : z 2 = nI c) : ∀ d i k, i + d = zn z → d < k → F_X3_numberSetOff_l4 v kd M k (nI (zfl z c kd i).length) (nI i) = some (nI (zfl z c kd (zn z)).length) := by
  have hb := hz.1.2.1
  intro d
  induction d with
  | zero =>
    intro i k hi hk
    obtain ⟨k, rfl⟩ : ∃ q, k = q + 1 := ⟨k - 1, by omega⟩
    have e : i = zn z := by omega
    subst e
    rw [F_X3_numberSetOff_l4, h.1.1, if_pos ((z0_le hz.1 (by omega)).mpr (by omega))]
  | succ d ih =>
    intro i k hi hk
    obtain ⟨k, rfl⟩ : ∃ q, k = q + 1 := ⟨k - 1, by omega⟩
    have ih' := ih (i + 1) k (by omega) (by omega)
    rw [zfl] at ih'
    rw [F_X3_numberSetOff_l4, h.1.1, if_neg (fun q => by have := (z0_le hz.1 (by omega)).mp q; omega), at_l hz.1 h (by omega), bd_s, ciso_l h hz (by omega) hc ht, bd_s]
    by_cases hs : zset z i c kd = true
    · rw [if_pos hs, if_neg (by decide), nm_k, nm_k, nI_1, nI_1]
      rw [if_pos hs, List.length_append, List.length_singleton] at ih'
      exact ih'
    · rw [if_neg hs, if_pos rfl, nm_k, nI_1]
      rw [if_neg hs] at ih'
      exact ih'
theorem cnum_eq {M : MS} {v c : Nat} {z : Nat → Int32} {kd : Int32} (hz : ZW z) (h : CZ M v z) (hc : c < zn z) (ht : z 2 = nI c) : F_X3_numberSetOff M v kd = some (nI (zsl z c kd (zn z)).length) := by
  have hb := hz.1.2.1
  rw [F_X3_numberSetOff, ← zfl_zsl hz.1]
  exact cnum_l hz h hc ht (zn z) 0 FU (by omega) (by rw [FU_s]; omega)

