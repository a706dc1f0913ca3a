/-! from the law's entry: the objects are made, and stand as the state M0 says -/
def M0 : MS := (fun c _ => if c = 54 ∨ c = 8 ∨ c = 9 ∨ c = 10 ∨ c = 11 then -1 else 0, fun _ _ => 0, fun i => i + 2, 0, 0)
abbrev UT : Type := (Nat → Nat → Nat) × Nat × Nat × Nat × ClassId × ClassId × ClassId
abbrev W4 : Type := Nat × Nat × Nat × Nat
def adG (q1 : Nat) (u : UT) (w : W4) (v : Nat) : Nat :=
  if v < 216 then u.1 (v / 27) (v % 27) else if v = 216 then q1 else if v = 217 then u.2.1 else if v = 218 then u.2.2.1 else if v = 219 then u.2.2.2.1 else if v = 220 then w.1 else if v = 221 then w.2.1 else if v = 222 then w.2.2.1 else w.2.2.2
theorem adG_b {q1 : Nat} {u : UT} {w : W4} {k j : Nat} (hk : k < 8) (hj : j < 27) : adG q1 u w (27 * k + j) = u.1 k j := by
  unfold adG
  rw [if_pos (by omega)]
  have h1 : (27 * k + j) / 27 = k := by omega
  have h2 : (27 * k + j) % 27 = j := by omega
  rw [h1, h2]
theorem kd_b {k j : Nat} (hk : k < 8) (hj : j < 27) : kd (27 * k + j) = if j = 0 then 3 else if j = 1 then 7 else if j = 2 then 2 else if j < 5 then 6 else if j < 16 then 0 else 6 := by
  unfold kd
  have h2 : (27 * k + j) % 27 = j := by omega
  rw [if_pos (by omega), h2]
theorem ln_b {k j : Nat} (hk : k < 8) (hj : j < 27) : ln (27 * k + j) = if j < 5 then 10 else 4 := by
  unfold ln
  have h2 : (27 * k + j) % 27 = j := by omega
  rw [if_pos (by omega), h2]
theorem rA_M0 {v : Nat} : rA M0 v = fun _ => 0 := rfl
section ST
variable {D : va_G} {tI tF tS tR : ClassId} {q1 : Nat} {u : UT} {w : W4}
def GS (D : va_G) (tI tF tS : ClassId) (q1 : Nat) (u : UT) (w : W4) : GG := (D, (tI, tF, tS), adG q1 u w, [])
theorem ent_b {k j : Nat} (hk : k < 8) (hj : j < 27) (h1 : j ≠ 1) : ent (GS D tI tF tS q1 u w) M0 (27 * k + j) = blkE (u.1 k) tI tF j := by
  have hg : ∀ i, i < 27 → gad (GS D tI tF tS q1 u w) (27 * k + i) = u.1 k i := fun i hi => adG_b hk hi
  have hd := kd_b hk hj
  have hl := ln_b hk hj
  have hr : rA M0 (27 * k + j) = fun _ => 0 := rA_M0
  by_cases c0 : j = 0
  · subst c0
    have e := ent3 (G := GS D tI tF tS q1 u w) (M := M0) (v := 27 * k + 0) ⟨by omega, by simpa using hd⟩
    rw [e]
    simp only [el3, Nat.add_assoc, Nat.zero_add, hg 1 (by omega), hg 15 (by omega), hg 2 (by omega), hg 4 (by omega)]
    rfl
  by_cases c2 : j = 2
  · subst c2
    have e := ent2 (G := GS D tI tF tS q1 u w) (M := M0) (v := 27 * k + 2) ⟨by omega, by simpa using hd⟩
    rw [e]
    simp only [el2, Nat.add_assoc, hg (2 + 1) (by omega)]
    rfl
  by_cases c5 : j < 5
  · have hd' : kd (27 * k + j) = 6 := by rw [hd]; simp [c0, h1, c2, c5]
    have hl' : ln (27 * k + j) = 10 := by rw [hl]; simp [c5]
    rw [ent6 ⟨by omega, hd'⟩, hr, hl']
    simp [blkE, c0, h1, c2, c5, GS]
  by_cases c16 : j < 16
  · have hd' : kd (27 * k + j) = 0 := by rw [hd]; simp [c0, h1, c2, c5, c16]
    rw [ent0 ⟨by omega, hd'⟩]
    simp only [el0, Nat.add_assoc, hg (j + 11) (by omega), blkE, if_neg c0, if_neg h1, if_neg c2, if_neg c5, if_pos c16]
    rfl
  · have hd' : kd (27 * k + j) = 6 := by rw [hd]; simp [c0, h1, c2, c5, c16]
    have hl' : ln (27 * k + j) = 4 := by rw [hl]; simp [c5]
    rw [ent6 ⟨by omega, hd'⟩, hr, hl']
    simp [blkE, c0, h1, c2, c5, c16, GS]
theorem blk_get {ad : Nat → Nat} {j : Nat} (hj : j < 27) : (blkW ad tI tF)[j]? = some (ad j, blkE ad tI tF j) := by simp [blkW, hj]
theorem blk_len {ad : Nat → Nat} : (blkW ad tI tF).length = 27 := by simp [blkW]
theorem mid_get {α : Type} (P B S : List α) {j n : Nat} (hj : j < B.length) (hn : P.length = n) : (P ++ (B ++ S))[n + j]? = B[j]? := by
  rw [← hn, List.getElem?_append_right (by omega), Nat.add_sub_cancel_left, List.getElem?_append_left hj]

def allW (q1 : Nat) (u : UT) (w : W4) (tR : ClassId) : va_W := [(w.2.2.2, .inl (tR, 7, .inl (fun _ => 0))), (w.2.2.1, .inl (tR, 6, .inl (fun _ => 0))), (w.2.1, .inl (tR, 24, .inl (fun _ => 0))), (w.1, .inl (tR, 48, .inl (fun _ => 0)))] ++ ttW q1 u
def posW (v : Nat) : Nat := if v < 54 then 6 + v else if v < 216 then 8 + v else if v = 216 then 5 else if v = 217 then 4 else if v = 218 then 60 else if v = 219 then 61 else if v = 220 then 3 else if v = 221 then 2 else if v = 222 then 1 else 0
theorem pos_blk {k j : Nat} (hk : k < 8) (hj : j < 27) : (allW q1 u w tR)[posW (27 * k + j)]? = some (u.1 k j, blkE (u.1 k) u.2.2.2.2.1 u.2.2.2.2.2.1 j) := by
  have hp : posW (27 * k + j) = (if k < 2 then 6 + 27 * k else 8 + 27 * k) + j := by
    unfold posW
    by_cases c : k < 2
    · rw [if_pos (by omega), if_pos c]; omega
    · rw [if_neg (by omega), if_pos (by omega), if_neg c]; omega
  rw [hp]
  have key : ∀ (P S : va_W) (n : Nat), allW q1 u w tR = P ++ (blkW (u.1 k) u.2.2.2.2.1 u.2.2.2.2.2.1 ++ S) → P.length = n → (allW q1 u w tR)[n + j]? = some (u.1 k j, blkE (u.1 k) u.2.2.2.2.1 u.2.2.2.2.2.1 j) := fun P S n e hn => by
    rw [e, mid_get P _ S (by rw [blk_len]; exact hj) hn, blk_get hj]
  rcases (show k = 0 ∨ k = 1 ∨ k = 2 ∨ k = 3 ∨ k = 4 ∨ k = 5 ∨ k = 6 ∨ k = 7 by omega) with rfl | rfl | rfl | rfl | rfl | rfl | rfl | rfl
  all_goals (simp only [show ((0:Nat) < 2) = True by simp, show ((1:Nat) < 2) = True by simp, show ((2:Nat) < 2) = False by simp, show ((3:Nat) < 2) = False by simp, show ((4:Nat) < 2) = False by simp, show ((5:Nat) < 2) = False by simp, show ((6:Nat) < 2) = False by simp, show ((7:Nat) < 2) = False by simp, if_true, if_false])
  · refine key ([(w.2.2.2, .inl (tR, 7, .inl (fun _ => 0))), (w.2.2.1, .inl (tR, 6, .inl (fun _ => 0))), (w.2.1, .inl (tR, 24, .inl (fun _ => 0))), (w.1, .inl (tR, 48, .inl (fun _ => 0)))] ++ ([(u.2.1, .inl (u.2.2.2.2.2.2, 6, .inr (.inr (.inr (.inr (fun i => some (u.1 (i + 2) 0))))))), (q1, .inr (4, [.ref (u.1 0 0), .ref (u.1 1 0), .ref u.2.1, .int (0 : Int32), .ref u.2.2.1]))])) (blkW (u.1 1) u.2.2.2.2.1 u.2.2.2.2.2.1 ++ ([(u.2.2.1, .inr (1, [.ref u.2.2.2.1, .int (0 : Int32)])), (u.2.2.2.1, .inl (u.2.2.2.2.1, 60, .inl (fun _ => 0)))] ++ (blkW (u.1 2) u.2.2.2.2.1 u.2.2.2.2.2.1 ++ (blkW (u.1 3) u.2.2.2.2.1 u.2.2.2.2.2.1 ++ (blkW (u.1 4) u.2.2.2.2.1 u.2.2.2.2.2.1 ++ (blkW (u.1 5) u.2.2.2.2.1 u.2.2.2.2.2.1 ++ (blkW (u.1 6) u.2.2.2.2.1 u.2.2.2.2.2.1 ++ (blkW (u.1 7) u.2.2.2.2.1 u.2.2.2.2.2.1)))))))) _ ?_ ?_
    · simp only [allW, ttW, List.append_assoc, List.cons_append, List.nil_append, List.append_nil]
    · simp [blk_len]
  · refine key ([(w.2.2.2, .inl (tR, 7, .inl (fun _ => 0))), (w.2.2.1, .inl (tR, 6, .inl (fun _ => 0))), (w.2.1, .inl (tR, 24, .inl (fun _ => 0))), (w.1, .inl (tR, 48, .inl (fun _ => 0)))] ++ ([(u.2.1, .inl (u.2.2.2.2.2.2, 6, .inr (.inr (.inr (.inr (fun i => some (u.1 (i + 2) 0))))))), (q1, .inr (4, [.ref (u.1 0 0), .ref (u.1 1 0), .ref u.2.1, .int (0 : Int32), .ref u.2.2.1]))] ++ (blkW (u.1 0) u.2.2.2.2.1 u.2.2.2.2.2.1))) ([(u.2.2.1, .inr (1, [.ref u.2.2.2.1, .int (0 : Int32)])), (u.2.2.2.1, .inl (u.2.2.2.2.1, 60, .inl (fun _ => 0)))] ++ (blkW (u.1 2) u.2.2.2.2.1 u.2.2.2.2.2.1 ++ (blkW (u.1 3) u.2.2.2.2.1 u.2.2.2.2.2.1 ++ (blkW (u.1 4) u.2.2.2.2.1 u.2.2.2.2.2.1 ++ (blkW (u.1 5) u.2.2.2.2.1 u.2.2.2.2.2.1 ++ (blkW (u.1 6) u.2.2.2.2.1 u.2.2.2.2.2.1 ++ (blkW (u.1 7) u.2.2.2.2.1 u.2.2.2.2.2.1))))))) _ ?_ ?_
    · simp only [allW, ttW, List.append_assoc, List.cons_append, List.nil_append, List.append_nil]
    · simp [blk_len]
  · refine key ([(w.2.2.2, .inl (tR, 7, .inl (fun _ => 0))), (w.2.2.1, .inl (tR, 6, .inl (fun _ => 0))), (w.2.1, .inl (tR, 24, .inl (fun _ => 0))), (w.1, .inl (tR, 48, .inl (fun _ => 0)))] ++ ([(u.2.1, .inl (u.2.2.2.2.2.2, 6, .inr (.inr (.inr (.inr (fun i => some (u.1 (i + 2) 0))))))), (q1, .inr (4, [.ref (u.1 0 0), .ref (u.1 1 0), .ref u.2.1, .int (0 : Int32), .ref u.2.2.1]))] ++ (blkW (u.1 0) u.2.2.2.2.1 u.2.2.2.2.2.1 ++ (blkW (u.1 1) u.2.2.2.2.1 u.2.2.2.2.2.1 ++ ([(u.2.2.1, .inr (1, [.ref u.2.2.2.1, .int (0 : Int32)])), (u.2.2.2.1, .inl (u.2.2.2.2.1, 60, .inl (fun _ => 0)))]))))) (blkW (u.1 3) u.2.2.2.2.1 u.2.2.2.2.2.1 ++ (blkW (u.1 4) u.2.2.2.2.1 u.2.2.2.2.2.1 ++ (blkW (u.1 5) u.2.2.2.2.1 u.2.2.2.2.2.1 ++ (blkW (u.1 6) u.2.2.2.2.1 u.2.2.2.2.2.1 ++ (blkW (u.1 7) u.2.2.2.2.1 u.2.2.2.2.2.1))))) _ ?_ ?_
    · simp only [allW, ttW, List.append_assoc, List.cons_append, List.nil_append, List.append_nil]
    · simp [blk_len]
  · refine key ([(w.2.2.2, .inl (tR, 7, .inl (fun _ => 0))), (w.2.2.1, .inl (tR, 6, .inl (fun _ => 0))), (w.2.1, .inl (tR, 24, .inl (fun _ => 0))), (w.1, .inl (tR, 48, .inl (fun _ => 0)))] ++ ([(u.2.1, .inl (u.2.2.2.2.2.2, 6, .inr (.inr (.inr (.inr (fun i => some (u.1 (i + 2) 0))))))), (q1, .inr (4, [.ref (u.1 0 0), .ref (u.1 1 0), .ref u.2.1, .int (0 : Int32), .ref u.2.2.1]))] ++ (blkW (u.1 0) u.2.2.2.2.1 u.2.2.2.2.2.1 ++ (blkW (u.1 1) u.2.2.2.2.1 u.2.2.2.2.2.1 ++ ([(u.2.2.1, .inr (1, [.ref u.2.2.2.1, .int (0 : Int32)])), (u.2.2.2.1, .inl (u.2.2.2.2.1, 60, .inl (fun _ => 0)))] ++ (blkW (u.1 2) u.2.2.2.2.1 u.2.2.2.2.2.1)))))) (blkW (u.1 4) u.2.2.2.2.1 u.2.2.2.2.2.1 ++ (blkW (u.1 5) u.2.2.2.2.1 u.2.2.2.2.2.1 ++ (blkW (u.1 6) u.2.2.2.2.1 u.2.2.2.2.2.1 ++ (blkW (u.1 7) u.2.2.2.2.1 u.2.2.2.2.2.1)))) _ ?_ ?_
    · simp only [allW, ttW, List.append_assoc, List.cons_append, List.nil_append, List.append_nil]
    · simp [blk_len]
  · refine key ([(w.2.2.2, .inl (tR, 7, .inl (fun _ => 0))), (w.2.2.1, .inl (tR, 6, .inl (fun _ => 0))), (w.2.1, .inl (tR, 24, .inl (fun _ => 0))), (w.1, .inl (tR, 48, .inl (fun _ => 0)))] ++ ([(u.2.1, .inl (u.2.2.2.2.2.2, 6, .inr (.inr (.inr (.inr (fun i => some (u.1 (i + 2) 0))))))), (q1, .inr (4, [.ref (u.1 0 0), .ref (u.1 1 0), .ref u.2.1, .int (0 : Int32), .ref u.2.2.1]))] ++ (blkW (u.1 0) u.2.2.2.2.1 u.2.2.2.2.2.1 ++ (blkW (u.1 1) u.2.2.2.2.1 u.2.2.2.2.2.1 ++ ([(u.2.2.1, .inr (1, [.ref u.2.2.2.1, .int (0 : Int32)])), (u.2.2.2.1, .inl (u.2.2.2.2.1, 60, .inl (fun _ => 0)))] ++ (blkW (u.1 2) u.2.2.2.2.1 u.2.2.2.2.2.1 ++ (blkW (u.1 3) u.2.2.2.2.1 u.2.2.2.2.2.1))))))) (blkW (u.1 5) u.2.2.2.2.1 u.2.2.2.2.2.1 ++ (blkW (u.1 6) u.2.2.2.2.1 u.2.2.2.2.2.1 ++ (blkW (u.1 7) u.2.2.2.2.1 u.2.2.2.2.2.1))) _ ?_ ?_
    · simp only [allW, ttW, List.append_assoc, List.cons_append, List.nil_append, List.append_nil]
    · simp [blk_len]
  · refine key ([(w.2.2.2, .inl (tR, 7, .inl (fun _ => 0))), (w.2.2.1, .inl (tR, 6, .inl (fun _ => 0))), (w.2.1, .inl (tR, 24, .inl (fun _ => 0))), (w.1, .inl (tR, 48, .inl (fun _ => 0)))] ++ ([(u.2.1, .inl (u.2.2.2.2.2.2, 6, .inr (.inr (.inr (.inr (fun i => some (u.1 (i + 2) 0))))))), (q1, .inr (4, [.ref (u.1 0 0), .ref (u.1 1 0), .ref u.2.1, .int (0 : Int32), .ref u.2.2.1]))] ++ (blkW (u.1 0) u.2.2.2.2.1 u.2.2.2.2.2.1 ++ (blkW (u.1 1) u.2.2.2.2.1 u.2.2.2.2.2.1 ++ ([(u.2.2.1, .inr (1, [.ref u.2.2.2.1, .int (0 : Int32)])), (u.2.2.2.1, .inl (u.2.2.2.2.1, 60, .inl (fun _ => 0)))] ++ (blkW (u.1 2) u.2.2.2.2.1 u.2.2.2.2.2.1 ++ (blkW (u.1 3) u.2.2.2.2.1 u.2.2.2.2.2.1 ++ (blkW (u.1 4) u.2.2.2.2.1 u.2.2.2.2.2.1)))))))) (blkW (u.1 6) u.2.2.2.2.1 u.2.2.2.2.2.1 ++ (blkW (u.1 7) u.2.2.2.2.1 u.2.2.2.2.2.1)) _ ?_ ?_
    · simp only [allW, ttW, List.append_assoc, List.cons_append, List.nil_append, List.append_nil]
    · simp [blk_len]
  · refine key ([(w.2.2.2, .inl (tR, 7, .inl (fun _ => 0))), (w.2.2.1, .inl (tR, 6, .inl (fun _ => 0))), (w.2.1, .inl (tR, 24, .inl (fun _ => 0))), (w.1, .inl (tR, 48, .inl (fun _ => 0)))] ++ ([(u.2.1, .inl (u.2.2.2.2.2.2, 6, .inr (.inr (.inr (.inr (fun i => some (u.1 (i + 2) 0))))))), (q1, .inr (4, [.ref (u.1 0 0), .ref (u.1 1 0), .ref u.2.1, .int (0 : Int32), .ref u.2.2.1]))] ++ (blkW (u.1 0) u.2.2.2.2.1 u.2.2.2.2.2.1 ++ (blkW (u.1 1) u.2.2.2.2.1 u.2.2.2.2.2.1 ++ ([(u.2.2.1, .inr (1, [.ref u.2.2.2.1, .int (0 : Int32)])), (u.2.2.2.1, .inl (u.2.2.2.2.1, 60, .inl (fun _ => 0)))] ++ (blkW (u.1 2) u.2.2.2.2.1 u.2.2.2.2.2.1 ++ (blkW (u.1 3) u.2.2.2.2.1 u.2.2.2.2.2.1 ++ (blkW (u.1 4) u.2.2.2.2.1 u.2.2.2.2.2.1 ++ (blkW (u.1 5) u.2.2.2.2.1 u.2.2.2.2.2.1))))))))) (blkW (u.1 7) u.2.2.2.2.1 u.2.2.2.2.2.1) _ ?_ ?_
    · simp only [allW, ttW, List.append_assoc, List.cons_append, List.nil_append, List.append_nil]
    · simp [blk_len]
  · refine key ([(w.2.2.2, .inl (tR, 7, .inl (fun _ => 0))), (w.2.2.1, .inl (tR, 6, .inl (fun _ => 0))), (w.2.1, .inl (tR, 24, .inl (fun _ => 0))), (w.1, .inl (tR, 48, .inl (fun _ => 0)))] ++ ([(u.2.1, .inl (u.2.2.2.2.2.2, 6, .inr (.inr (.inr (.inr (fun i => some (u.1 (i + 2) 0))))))), (q1, .inr (4, [.ref (u.1 0 0), .ref (u.1 1 0), .ref u.2.1, .int (0 : Int32), .ref u.2.2.1]))] ++ (blkW (u.1 0) u.2.2.2.2.1 u.2.2.2.2.2.1 ++ (blkW (u.1 1) u.2.2.2.2.1 u.2.2.2.2.2.1 ++ ([(u.2.2.1, .inr (1, [.ref u.2.2.2.1, .int (0 : Int32)])), (u.2.2.2.1, .inl (u.2.2.2.2.1, 60, .inl (fun _ => 0)))] ++ (blkW (u.1 2) u.2.2.2.2.1 u.2.2.2.2.2.1 ++ (blkW (u.1 3) u.2.2.2.2.1 u.2.2.2.2.2.1 ++ (blkW (u.1 4) u.2.2.2.2.1 u.2.2.2.2.2.1 ++ (blkW (u.1 5) u.2.2.2.2.1 u.2.2.2.2.2.1 ++ (blkW (u.1 6) u.2.2.2.2.1 u.2.2.2.2.2.1)))))))))) [] _ ?_ ?_
    · simp only [allW, ttW, List.append_assoc, List.cons_append, List.nil_append, List.append_nil]
    · simp [blk_len]
end ST
