/-! forty-five choices -/
theorem nm_all {α : Sort _} {β : Type} {a : α} {k : α → Option β} {x : Option β} (P : α → Prop) (ha : P a) (hk : ∀ j, P j → k j = x) : nm a k = x := hk a ha
/-- what goes on behind a choice -/
def JP (n : Nat) (J : Int32 → MS → Option Int32) : Prop := ∀ M z, LM M z n → J 1 M = some 1
theorem st_end {M : MS} {z : Nat → Int32} {n : Nat} {J : Int32 → MS → Option Int32} (hJ : JP n J) (h : LM M z n) (h6 : n ≤ 6) (h2 : ¬ z 2 = -1) : (bd (F_L_endTurn M) fun M68 => (bd0 (F_X4_end M68) fun r71 M70 => (gdb (inb (0 : Int32) 7) (if ¬ r71 = (rA M70 223 (Int32.toNatClampNeg (0 : Int32))) then (J (0 : Int32) M70) else (J (1 : Int32) M70))))) = some 1 := by
  obtain ⟨hS, hl, hn, hta⟩ := h
  obtain ⟨hz, ht⟩ := SJ_z hS
  obtain ⟨d1, d2, d3, d4, d5⟩ := TH_t hz ht h2
  rw [d2] at hl
  obtain ⟨M1, a1, a2, a3⟩ := endTurn_ok hl hz (by omega) d1
  obtain ⟨M2, b1, b2, b3⟩ := q_end (SJ_LF hS a3) h2
  have l2 := LRt_MP a2 b3
  rw [a1, bd_s, b1, bd0_s, g70, tn0, l2.2.2.2.1]
  rw [if_neg (show ¬ ¬ zen z 2 = zend z (ztn z) 2 from fun q => q rfl)]
  exact hJ M2 (zen z) ⟨b2, l2, (zen_ok hz ht h2).2.2.trans hn, zend_ta hz d1⟩
theorem st_delay {M : MS} {z : Nat → Int32} {n : Nat} {J : Int32 → MS → Option Int32} (hJ : JP n J) (h : LM M z n) (h6 : n ≤ 6) (h2 : ¬ z 2 = -1) : (gdb (inb (((8 : Int32) * nI (ztn z)) + (3 : Int32)) 48) (nm (wA M 220 (Int32.toNatClampNeg (((8 : Int32) * nI (ztn z)) + (3 : Int32))) (1 : Int32)) fun M120 => (bd (F_L_endTurn M120) fun M122 => (bd0 (F_X4_delay M122) fun r125 M124 => (gdb (inb (0 : Int32) 7) (if ¬ r125 = (rA M124 223 (Int32.toNatClampNeg (0 : Int32))) then (J (0 : Int32) M124) else (J (1 : Int32) M124))))))) = some 1 := by
  obtain ⟨hS, hl, hn, hta⟩ := h
  obtain ⟨hz, ht⟩ := SJ_z hS
  obtain ⟨d1, d2, d3, d4, d5⟩ := TH_t hz ht h2
  rw [d2] at hl
  have w1 : ZW (zl z (ztn z) 6 1) := ZW_zl hz d1 (by decide) (vok_del (Or.inr rfl))
  have n1 : zn (zl z (ztn z) 6 1) = zn z := zn_zl hz.1
  have l1 : LRt (wA M 220 (8 * ztn z + 3) 1) (zl z (ztn z) 6 1) (nI (ztn z)) := LRt_a (f := ztn z) (j := 3) hl hz.1 d1 (by decide)
  obtain ⟨M1, a1, a2, a3⟩ := endTurn_ok l1 w1 (by omega) (by rw [n1]; exact d1)
  obtain ⟨M2, b1, b2, b3⟩ := q_delay (SJ_LF hS (LF_trans (LF_A (by decide)) a3)) h2
  have l2 := LRt_MP a2 b3
  rw [ix83, gdb_t (inb_nI (by omega) (by decide)), nI_clamp (by omega), nm_k, a1, bd_s, b1, bd0_s, g70, tn0, l2.2.2.2.1]
  rw [if_neg (show ¬ ¬ zde z 2 = zend (zl z (ztn z) 6 1) (ztn z) 2 from fun q => q rfl)]
  exact hJ M2 (zde z) ⟨b2, l2, (zde_ok hz ht h2).2.2.trans hn, zend_ta w1 (by rw [n1]; exact d1)⟩
theorem st_comeIn {M : MS} {z : Nat → Int32} {n g : Nat} {J : Int32 → MS → Option Int32} (hJ : JP n J) (h : LM M z n) (h6 : n ≤ 6) (h2 : ¬ z 2 = -1) (hg : g < n) : (bd (F_L_lives M (nI g)) fun r75 => (if r75 = 0 then (J (1 : Int32) M) else (gdb (inb (((8 : Int32) * nI g) + (3 : Int32)) 48) (if ¬ (rA M 220 (Int32.toNatClampNeg (((8 : Int32) * nI g) + (3 : Int32)))) = (1 : Int32) then (J (1 : Int32) M) else (bd (F_L_stand M (nI n) (nI g) (nI (ztn z)) (1 : Int32)) fun M80 => (gdb (inb (((8 : Int32) * nI g) + (3 : Int32)) 48) (nm (wA M80 220 (Int32.toNatClampNeg (((8 : Int32) * nI g) + (3 : Int32))) (0 : Int32)) fun M82 => (bd0 (F_X4_comeIn M82 (nI g)) fun r85 M84 => (gdb (inb (((8 : Int32) * nI g) + (2 : Int32)) 48) (if ¬ r85 = (rA M84 220 (Int32.toNatClampNeg (((8 : Int32) * nI g) + (2 : Int32)))) then (J (0 : Int32) M84) else (J (1 : Int32) M84))))))))))) = some 1 := by
  have hLM := h
  obtain ⟨hS, hl, hn, hta⟩ := h
  subst hn
  obtain ⟨hz, ht⟩ := SJ_z hS
  obtain ⟨d1, d2, d3, d4, d5⟩ := TH_t hz ht h2
  rw [lives_ok hl hz h6 hg, bd_s]
  by_cases c1 : zo z g 2 = 0
  · rw [if_pos c1, if_pos rfl]
    exact hJ M z hLM
  rw [if_neg c1, if_neg (show ¬ (1 : Int32) = 0 by decide), ix83, gdb_t (inb_nI (by omega) (by decide)), nI_clamp (by omega), show rA M 220 (8 * g + 3) = zo z g 6 from hl.1 g hg 3 (by decide)]
  by_cases c2 : zo z g 6 = 1
  · have hne : g ≠ ztn z := fun e => by rw [e, d4] at c2; exact absurd c2 (by decide)
    have hq : zci z g = true := by unfold zci; simp [h2, c2, c1]
    obtain ⟨w1, w2, w3⟩ := zli_ok hz ht hg hq
    obtain ⟨M1, a1, a2, a3, a4⟩ := stand_ok true (f := g) (c := ztn z) hl hz h6 hg d1 hne
    obtain ⟨wb, nb⟩ := ZW_behind (f := g) (c := ztn z) hz hg d1
    have a1' : F_L_stand M (nI (zn z)) (nI g) (nI (ztn z)) 1 = some M1 := a1
    have a2' : LRt M1 (zbehind z g (ztn z)) (z 2) := a2
    have l1 : LRt (wA M1 220 (8 * g + 3) 0) (zli z g) (z 2) := LRt_a (f := g) (j := 3) a2' wb.1 (by rw [nb]; exact hg) (by decide)
    obtain ⟨M2, b1, b2, b3⟩ := q_comeIn (SJ_LF hS (LF_trans a3 (LF_A (M := M1) (v := 220) (i := 8 * g + 3) (x := 0) (by decide)))) hg hq
    have l2 := LRt_MP l1 b3
    have e2 : zli z g 2 = z 2 := by
      obtain ⟨p1, _, _⟩ := zpn_lt hz.1 hg
      unfold zli zletin zbehind
      rw [zl_lo (by decide), zl_lo (by decide), zmv_else p1 (ztb_lt hz.1 hg d1) (Or.inl (by decide))]
    have e1 : rA M2 220 (8 * g + 2) = zo (zli z g) g 1 := l2.1 g (by rw [w3]; exact hg) 2 (by decide)
    rw [if_neg (fun q => q c2), a1', bd_s, gdb_t (inb_nI (by omega) (by decide)), nm_k, b1, bd0_s, ix82, gdb_t (inb_nI (by omega) (by decide)), nI_clamp (by omega), e1, if_neg (fun q => q rfl)]
    exact hJ M2 (zli z g) ⟨b2, by rw [e2]; exact l2, w3, fun q => absurd (e2.symm.trans q) h2⟩
  · rw [if_pos c2]
    exact hJ M z hLM
theorem st_ready {M : MS} {z : Nat → Int32} {n g a c : Nat} {w : Int32} {J : Int32 → MS → Option Int32} (hJ : JP n J) (h : LM M z n) (h6 : n ≤ 6) (h2 : ¬ z 2 = -1) (hg : g < n) (hgf : ¬ g = ztn z) (ha : a < 2) (hc : c < 4) (hw : w = -1 ∨ ∃ q, q < n ∧ w = nI q) (hwf : ¬ w = nI (ztn z)) {h14 h13 : Int32} (e13 : ∀ M, F_L_low M h13 2 = some (nI a)) (e14 : ∀ M, F_L_low M h14 4 = some (nI c)) :
    (bd (F_L_low M h13 (2 : Int32)) fun r96 => (gdb (inb (((8 : Int32) * nI (ztn z)) + (4 : Int32)) 48) (nm (wA M 220 (Int32.toNatClampNeg (((8 : Int32) * nI (ztn z)) + (4 : Int32))) ((2 : Int32) * r96)) fun M98 => (gdb (inb (((8 : Int32) * nI (ztn z)) + (5 : Int32)) 48) (nm (wA M98 220 (Int32.toNatClampNeg (((8 : Int32) * nI (ztn z)) + (5 : Int32))) (nI g)) fun M100 => (gdb (inb (((8 : Int32) * nI (ztn z)) + (6 : Int32)) 48) (nm (wA M100 220 (Int32.toNatClampNeg (((8 : Int32) * nI (ztn z)) + (6 : Int32))) w) fun M102 => (bd (F_L_low M102 h14 (4 : Int32)) fun r104 => (gdb (inb (((8 : Int32) * nI (ztn z)) + (7 : Int32)) 48) (nm (wA M102 220 (Int32.toNatClampNeg (((8 : Int32) * nI (ztn z)) + (7 : Int32))) r104) fun M106 => (bd (F_L_endTurn M106) fun M108 => (bd (F_L_low M108 h13 (2 : Int32)) fun r110 => (bd (F_L_low M108 h14 (4 : Int32)) fun r112 => (bd0 (F_X4_ready M108 ((2 : Int32) * r110) (nI g) w r112) fun r115 M114 => (gdb (inb (0 : Int32) 7) (if ¬ r115 = (rA M114 223 (Int32.toNatClampNeg (0 : Int32))) then (J (0 : Int32) M114) else (J (1 : Int32) M114))))))))))))))))) = some 1 := by
  obtain ⟨hS, hl, hn, hta⟩ := h
  subst hn
  obtain ⟨hz, ht⟩ := SJ_z hS
  obtain ⟨d1, d2, d3, d4, d5⟩ := TH_t hz ht h2
  rw [d2] at hl
  have e2a : (2 : Int32) * nI a = 0 ∨ (2 : Int32) * nI a = 2 := by
    rcases (show a = 0 ∨ a = 1 by omega) with e | e <;> rw [e]
    · exact Or.inl (by decide)
    · exact Or.inr (by decide)
  have h4 : ZW (zl4 z (ztn z) ((2 : Int32) * nI a) (nI g) w (nI c)) := ZW_l4 hz d1 e2a ⟨g, hg, rfl⟩ hw ⟨c, by omega, rfl⟩
  have n4 : zn (zl4 z (ztn z) ((2 : Int32) * nI a) (nI g) w (nI c)) = zn z := (Z0_l4 hz.1).2.1
  have z1 := (Z0_zl (f := ztn z) (w := 7) (x := (2 : Int32) * nI a) hz.1)
  have z2 := (Z0_zl (f := ztn z) (w := 8) (x := nI g) z1.1)
  have z3 := (Z0_zl (f := ztn z) (w := 9) (x := w) z2.1)
  have l1 : LRt (wA M 220 (8 * ztn z + 4) ((2 : Int32) * nI a)) (zl z (ztn z) 7 ((2 : Int32) * nI a)) (nI (ztn z)) := LRt_a (f := ztn z) (j := 4) hl hz.1 d1 (by decide)
  have l2 : LRt (wA (wA M 220 (8 * ztn z + 4) ((2 : Int32) * nI a)) 220 (8 * ztn z + 5) (nI g)) (zl (zl z (ztn z) 7 ((2 : Int32) * nI a)) (ztn z) 8 (nI g)) (nI (ztn z)) := LRt_a (f := ztn z) (j := 5) l1 z1.1 (by rw [z1.2.1]; exact d1) (by decide)
  have l3 : LRt (wA (wA (wA M 220 (8 * ztn z + 4) ((2 : Int32) * nI a)) 220 (8 * ztn z + 5) (nI g)) 220 (8 * ztn z + 6) w) (zl (zl (zl z (ztn z) 7 ((2 : Int32) * nI a)) (ztn z) 8 (nI g)) (ztn z) 9 w) (nI (ztn z)) := LRt_a (f := ztn z) (j := 6) l2 z2.1 (by rw [z2.2.1, z1.2.1]; exact d1) (by decide)
  have l4 : LRt (wA (wA (wA (wA M 220 (8 * ztn z + 4) ((2 : Int32) * nI a)) 220 (8 * ztn z + 5) (nI g)) 220 (8 * ztn z + 6) w) 220 (8 * ztn z + 7) (nI c)) (zl4 z (ztn z) ((2 : Int32) * nI a) (nI g) w (nI c)) (nI (ztn z)) := LRt_a (f := ztn z) (j := 7) l3 z3.1 (by rw [z3.2.1, z2.2.1, z1.2.1]; exact d1) (by decide)
  obtain ⟨M1, a1, a2, a3⟩ := endTurn_ok l4 h4 (by rw [n4]; exact h6) (by rw [n4]; exact d1)
  have lf := LF_trans (LF_trans (LF_trans (LF_trans (LF_A (M := M) (v := 220) (i := 8 * ztn z + 4) (x := (2 : Int32) * nI a) (by decide)) (LF_A (v := 220) (i := 8 * ztn z + 5) (x := nI g) (by decide))) (LF_A (v := 220) (i := 8 * ztn z + 6) (x := w) (by decide))) (LF_A (v := 220) (i := 8 * ztn z + 7) (x := nI c) (by decide))) a3
  have hb := hz.1.2.1
  obtain ⟨M2, b1, b2, b3⟩ := q_ready (k := (2 : Int32) * nI a) (g := nI g) (w := w) (c := nI c) (SJ_LF hS lf) (isf_c hz.1 hg) (hw.elim Or.inl (fun ⟨q, q1, q2⟩ => Or.inr (by rw [q2]; exact isf_c hz.1 q1))) e2a (wi_c (l := 0) (h := 3) (Nat.zero_le _) (by omega) (by decide)) h2 (fun q => hgf ((nI_eq (by omega) (by omega)).mp (q.trans d2))) (fun q => hwf (q.trans d2))
  have l5 := LRt_MP a2 b3
  rw [e13, bd_s, ix84, gdb_t (inb_nI (by omega) (by decide)), nI_clamp (n := 8 * ztn z + 4) (by omega), nm_k, ix85, gdb_t (inb_nI (by omega) (by decide)), nI_clamp (n := 8 * ztn z + 5) (by omega), nm_k, ix86, gdb_t (inb_nI (by omega) (by decide)), nI_clamp (n := 8 * ztn z + 6) (by omega), nm_k, e14, bd_s, ix87, gdb_t (inb_nI (by omega) (by decide)), nI_clamp (n := 8 * ztn z + 7) (by omega), nm_k, a1, bd_s, e13, bd_s, e14, bd_s, b1, bd0_s, g70, tn0, l5.2.2.2.1]
  rw [if_neg (show ¬ ¬ zready z (ztn z) ((2 : Int32) * nI a) (nI g) w (nI c) 2 = zend (zl4 z (ztn z) ((2 : Int32) * nI a) (nI g) w (nI c)) (ztn z) 2 from fun q => q rfl)]
  exact hJ M2 _ ⟨b2, l5, (ready_ok hz d1 h4).2.2, zend_ta h4 (by rw [n4]; exact d1)⟩
