/-! the calls that look -/
/-! what an act would bring -/
def gdone (z : Nat → Int32) (k g w : Int32) : Bool := wi k 0 3 && (wi w 0 3 && (if k = 1 then wi g 0 9 else isf z g))
theorem cd_1 {M : MS} {β : Type} {k w : Int32} {J : Int32 → Option β} : (bd (F_X4_isWithin M k (0 : Int32) (3 : Int32)) fun r2 => (nm J fun j => (if r2 = 0 then (j (0 : Int32)) else (bd (F_X4_isWithin M w (0 : Int32) (3 : Int32)) fun r38 => (if r38 = 0 then (j (0 : Int32)) else (j (1 : Int32))))))) = J (if (wi k 0 3 && wi w 0 3) = true then 1 else 0) := by
  by_cases h0 : wi k 0 3 = true
  · rw [isW_t h0, bd_s, nm_k, if_neg (by decide)]
    by_cases h1 : wi w 0 3 = true
    · rw [isW_t h1, bd_s, if_neg (by decide), h0, h1]; rfl
    · rw [isW_f h1, bd_s, if_pos rfl, if_neg (by simp [h1])]
  · rw [isW_f h0, bd_s, nm_k, if_pos rfl, if_neg (by simp [h0])]
theorem cd_2 {M : MS} {z : Nat → Int32} {β : Type} {k g : Int32} {J : Int32 → Option β} (h : CZ M 0 z) : nm J (fun j => (if ¬ k = (1 : Int32) then (bd (F_X3_isFighter M 0 g) fun r33 => (j r33)) else (bd (F_X4_isWithin M g (0 : Int32) (9 : Int32)) fun r35 => (j r35)))) = J (if (if k = 1 then wi g 0 9 else isf z g) = true then 1 else 0) := by
  rw [nm_k]
  by_cases e : k = 1
  · rw [if_neg (fun q => q e), if_pos e]
    by_cases h1 : wi g 0 9 = true
    · rw [isW_t h1, bd_s, if_pos h1]
    · rw [isW_f h1, bd_s, if_neg h1]
  · rw [if_pos e, if_neg e]
    by_cases h1 : isf z g = true
    · rw [cF_t h h1, bd_s, if_pos h1]
    · rw [cF_f h h1, bd_s, if_neg h1]
theorem cdone_l {M : MS} {z : Nat → Int32} {m : Nat} {sv : Nat → Nat → Int32} {t : Nat} {b : Nat → Int32} {kd x : Int32} {w : Nat} (h : CI M z m sv t b) (hp : PI z m sv t) (hx : xok z kd x) (hk : k4 kd) (hw : w ≤ 3) : ∃ M1, (bd (F_X3_isPossible M 0 (rF M 54 0) kd x) fun r14 => (if ¬ nI w = 0 then (if ¬ r14 = 0 then (if ¬ nI w = (1 : Int32) then (bd (F_X3_copyFrom M 27 0) fun M19 => (bd2 (F_X3_act M19 27 kd x (0 : Int32) (1 : Int32)) fun r22 M21 => (nm (fun (s23 : Int32) => (if ¬ nI w = (2 : Int32) then (some ((0 : Nat), (rF M21 54 27), M21)) else (if s23 = 0 then (some ((0 : Nat), (1 : Int32), M21)) else (some ((0 : Nat), (0 : Int32), M21))))) fun j137_23 => (if ¬ r22 = (-1 : Int32) then (j137_23 (0 : Int32)) else (j137_23 (1 : Int32)))))) else (bd (F_X3_numberSetOff M 0 kd) fun r29 => (some ((0 : Nat), r29, M)))) else (some ((0 : Nat), (-1 : Int32), M))) else (if r14 = 0 then (some ((0 : Nat), (0 : Int32), M)) else (some ((0 : Nat), (1 : Int32), M))))) = some (0, zwd z kd x w, M1) ∧ CI M1 z m sv t b ∧ MPart M M1 := by
  obtain ⟨hz, ht, _⟩ := id hp
  rw [ccx_l h.1 hz ht hx hk, bd_s]
  by_cases e : zcx z kd x = true
  · obtain ⟨e1, e2⟩ := zcx_t e
    have e2' : zpos z (z 2).toNatClampNeg kd x = true := e2
    obtain ⟨d1, d2, d3⟩ := TH_t hz ht e1
    rw [if_pos e]
    unfold zwd
    rw [if_neg e1, if_pos e2']
    by_cases w0 : w = 0
    · rw [if_neg (fun q => q ((wl0 hw).mpr w0)), if_pos w0, if_neg (by decide)]
      exact ⟨M, rfl, h, MPart_refl⟩
    rw [if_pos (fun q => w0 ((wl0 hw).mp q)), if_neg w0, if_pos (by decide)]
    by_cases w1 : w = 1
    · rw [if_neg (fun q => q ((wl1 hw).mpr w1)), if_pos w1, cnum_eq hz h.1 d1 d2, bd_s]
      exact ⟨M, rfl, h, MPart_refl⟩
    rw [if_pos (fun q => w1 ((wl1 hw).mp q)), if_neg w1]
    obtain ⟨M3, g1, g2⟩ := scr_eq h hp
    obtain ⟨M5, R', k1, k2⟩ := cdx_s (c := 0) (r := 1) (a3 := 0) (a4 := 1) g2 hz ht hx hk (by decide) (by decide) (fun _ => ⟨rfl, rfl⟩) e
    have ht2 : rF M5 54 27 = zdA z kd x 0 1 2 := k2.2.1.1.2.2.1
    have k1' : F_X3_act M3 27 kd x 0 1 = some (zactR z (z 2).toNatClampNeg kd x 0 1, M5) := k1
    rw [g1, bd_s, k1', bd2_s, nm_k]
    have fin : CI M5 z m sv t b ∧ MPart M M5 := ⟨CI_scr h hp k2, MPart_CFR k2.2.2.1 (by decide)⟩
    by_cases w2 : w = 2
    · rw [if_pos w2]
      have q2 : ¬ ¬ nI w = 2 := fun q => q ((wl2 hw).mpr w2)
      by_cases q : zactR z (z 2).toNatClampNeg kd x 0 1 = -1
      · rw [if_neg (fun r => r q), if_pos q]
        try dsimp only
        rw [if_neg q2, if_neg (by decide)]
        exact ⟨M5, rfl, fin⟩
      · rw [if_pos q, if_neg q]
        try dsimp only
        rw [if_neg q2, if_pos rfl]
        exact ⟨M5, rfl, fin⟩
    · have q2 : ¬ nI w = 2 := fun q => w2 ((wl2 hw).mp q)
      rw [if_neg w2]
      by_cases q : zactR z (z 2).toNatClampNeg kd x 0 1 = -1
      · rw [if_neg (fun r => r q)]
        try dsimp only
        rw [if_pos q2, ht2]
        exact ⟨M5, rfl, fin⟩
      · rw [if_pos q]
        try dsimp only
        rw [if_pos q2, ht2]
        exact ⟨M5, rfl, fin⟩
  · have hn : zwd z kd x w = if w = 0 then 0 else -1 := by
      unfold zwd
      by_cases e1 : z 2 = -1
      · rw [if_pos e1]
      · rw [if_neg e1, if_neg (fun q => e (by unfold zcx ztn; simp [e1, q]))]
    rw [if_neg e, hn]
    by_cases w0 : w = 0
    · rw [if_neg (fun q => q ((wl0 hw).mpr w0)), if_pos w0, if_pos rfl]
      exact ⟨M, rfl, h, MPart_refl⟩
    · rw [if_pos (fun q => w0 ((wl0 hw).mp q)), if_neg w0, if_neg (by decide)]
      exact ⟨M, rfl, h, MPart_refl⟩
