/-! an act with all that it sets off, by the law -/
theorem zdo_st {z : Nat → Int32} {f g c w : Nat} {kd x r : Int32} (hc : c < 4) (hw : w = 0 ∨ w = 3 ∨ w = 4) : zo (zdo z f kd x c r) g w = zo z g w := by
  have h0 : zo (zcnt z f) g w = zo z g w := zcnt_o (by omega) (by omega)
  unfold zdo zstr zhlp
  split
  · rw [zo_zl (by decide) (by omega), if_neg (by omega), zo_zl (by decide) (by omega), if_neg (by omega), h0]
  · split
    · rw [zo_zl (by decide) (by omega), if_neg (by omega), zo_zl (by decide) (by omega), if_neg (by omega), h0]
    · split
      · rw [zo_zl (by decide) (by omega), if_neg (by omega), h0]
      · rw [zo_zl (by omega) (by omega), if_neg (by omega), h0]
theorem zone_st {z : Nat → Int32} {c f g w : Nat} (hz : ZW z) (hf : f < zn z) (hc : c < zn z) (hk : ¬ zo z f 7 = -1) (hw : w = 0 ∨ w = 3 ∨ w = 4) : zo (zone z c f) g w = zo z g w := by
  have h1 := ZW_lose hz hf
  have n1 := (Z0_lose (f := f) hz.1).2.1
  have hx := xok_of n1 (rd_xok (hz.2.1 f hf) hk)
  have e : zo (zlose z f) g w = zo z g w := by rw [zlose_o (by omega), if_neg (by omega)]
  unfold zone
  split
  · obtain ⟨a, b⟩ := ZW_do (c := 0) (r := 0) (ri := 0) h1 (by rw [n1]; exact hf) hx (by decide) (by decide) rfl
    rw [ahead_o a.1 (by rw [b, n1]; exact hf) (by rw [b, n1]; exact hc) (by omega), if_neg (by omega), zdo_st (by decide) hw, e]
  · have a := ZW_up (g := 4) (x := zlose z f 4 + 1) h1 (by decide) (by decide)
    have b := zn_up (g := 4) (x := zlose z f 4 + 1) h1.1 (by decide) (by decide)
    rw [ahead_o a.1 (by rw [b, n1]; exact hf) (by rw [b, n1]; exact hc) (by omega), if_neg (by omega), zo_lo (by decide), e]
/-- the act itself, behind those that are set off -/
theorem act_end {M : MS} {zc z : Nat → Int32} {kd x ci ri : Int32} {f c r k i N : Nat} {x4 : Int32} (hS : SJ M zc) (hB : SB zc z) (h : LRt M z (nI f)) (hz : ZW z) (h6 : zn z ≤ 6) (hf : f < zn z) (hx : xok z kd x) (hk : k4 kd) (hc : c < 4) (hr : r ≤ 5) (hci : kd = 3 → ci = nI c ∧ ri = nI r) (ht6 : rA M 223 6 = nI N) (hi : N ≤ i) (hi2 : i < 2 ^ 31) : ∃ M', F_L_act_l145 kd x ci ri (nI f) x4 (k + 1) (nI i) M = some ((if zo z f 2 = 0 then -1 else if zpos z f kd x = true then zdoR z f kd x c (nI r) else -1), M') ∧ LRt M' (zend (if zo z f 2 = 0 then upd z 4 (z 4 + 1) else if zpos z f kd x = true then zdo z f kd x c (nI r) else upd z 4 (z 4 + 1)) f) (zend (if zo z f 2 = 0 then upd z 4 (z 4 + 1) else if zpos z f kd x = true then zdo z f kd x c (nI r) else upd z 4 (z 4 + 1)) f 2) ∧ LF M M' := by
  have lv := lives_ok h hz h6 hf
  have nu : zn (upd z 4 (z 4 + 1)) = zn z := zn_up hz.1 (by decide) (by decide)
  have wu := ZW_up (g := 4) (x := z 4 + 1) hz (by decide) (by decide)
  have lu : LRt (wA M 223 3 (z 4 + 1)) (upd z 4 (z 4 + 1)) (nI f) := LRt_t (g := 3) h hz.1 (by decide) (by decide)
  obtain ⟨Mu, u1, u2, u3⟩ := endTurn_ok (f := f) lu wu (by rw [nu]; exact h6) (by rw [nu]; exact hf)
  have fail : (gdb (inb (3 : Int32) 7) (gdb (inb (3 : Int32) 7) (bd (F_L_endTurn (wA M 223 (Int32.toNatClampNeg (3 : Int32)) ((rA M 223 (Int32.toNatClampNeg (3 : Int32))) + (1 : Int32)))) fun M21 => (some ((-1 : Int32), M21))))) = some ((-1 : Int32), Mu) := by
    rw [g73, g73, tn3, h.2.2.2.2 3 (by decide) (by decide), show z (tw 3) = z 4 from rfl, u1, bd_s]
  rw [F_L_act_l145]
  simp only [nm_k]
  rw [g76, tn6, ht6, if_pos (nI_le hi hi2), lv, bd_s]
  by_cases c2 : zo z f 2 = 0
  · rw [if_pos c2, if_pos c2, if_pos rfl, if_pos c2]
    exact ⟨Mu, fail, u2, LF_trans (LF_A (by decide)) u3⟩
  · rw [if_neg c2, if_neg c2, if_neg (show ¬ (1 : Int32) = 0 by decide), if_neg c2, can_ok hS hB h hz h6 hf hx hk, bd2_s]
    by_cases c3 : zpos z f kd x = true
    · obtain ⟨M1, a1, a2, a3, a4⟩ := does_ok (c := c) (r := r) hS hB h hz h6 hf hx hk hc hr hci
      obtain ⟨w1, w2⟩ := ZW_do (c := c) (r := r) (ri := nI r) hz hf hx hc hr rfl
      obtain ⟨M2, b1, b2, b3⟩ := endTurn_ok (f := f) a2 w1 (by rw [w2]; exact h6) (by rw [w2]; exact hf)
      rw [if_pos c3, if_pos c3, if_neg (show ¬ (1 : Int32) = 0 by decide), if_pos c3, a1, bd2_s]
      try dsimp only
      rw [b1, bd_s]
      exact ⟨M2, rfl, b2, LF_trans a3 b3⟩
    · rw [if_neg c3, if_neg c3, if_pos rfl, if_neg c3]
      exact ⟨Mu, fail, u2, LF_trans (LF_A (by decide)) u3⟩
/-- those that are set off, one after the other -/
theorem act_set {zc : Nat → Int32} {kd x ci ri : Int32} {f c r N : Nat} (hk : k4 kd) (hc : c < 4) (hr : r ≤ 5) (hci : kd = 3 → ci = nI c ∧ ri = nI r) (hN : N ≤ 6) : ∀ (l : List Nat) (i k : Nat) (M : MS) (z : Nat → Int32), SJ M zc → SB zc z → LRt M z (nI f) → ZW z → zn z ≤ 6 → f < zn z → xok z kd x → hasR (rA M 224) i l → rA M 223 6 = nI N → i + l.length = N → l.Nodup → (∀ a, a ∈ l → a < zn z ∧ ¬ zo z a 7 = -1 ∧ a ≠ f) → l.length < k →
    ∃ M', F_L_act_l145 kd x ci ri (nI f) (nI (zn z)) k (nI i) M = some ((if zo (zso f l z) f 2 = 0 then -1 else if zpos (zso f l z) f kd x = true then zdoR (zso f l z) f kd x c (nI r) else -1), M') ∧ LRt M' (zend (if zo (zso f l z) f 2 = 0 then upd (zso f l z) 4 (zso f l z 4 + 1) else if zpos (zso f l z) f kd x = true then zdo (zso f l z) f kd x c (nI r) else upd (zso f l z) 4 (zso f l z 4 + 1)) f) (zend (if zo (zso f l z) f 2 = 0 then upd (zso f l z) 4 (zso f l z 4 + 1) else if zpos (zso f l z) f kd x = true then zdo (zso f l z) f kd x c (nI r) else upd (zso f l z) 4 (zso f l z 4 + 1)) f 2) ∧ LF M M' := by
  intro l
  induction l with
  | nil =>
    intro i k M z hS hB h hz h6 hf hx hh ht6 hl hd hm hkk
    obtain ⟨k, rfl⟩ : ∃ q, k = q + 1 := ⟨k - 1, by omega⟩
    simp at hl
    exact act_end hS hB h hz h6 hf hx hk hc hr hci ht6 (by omega) (by omega)
  | cons g l ih =>
    intro i k M z hS hB h hz h6 hf hx hh ht6 hl hd hm hkk
    obtain ⟨k, rfl⟩ : ∃ q, k = q + 1 := ⟨k - 1, by omega⟩
    rw [List.length_cons] at hl hkk
    obtain ⟨hg, hkd, hgf⟩ := hm g (List.mem_cons_self ..)
    have hnd := List.nodup_cons.mp hd
    have hrg : rA M 224 i = nI g := hh 0 g rfl
    have h1 := ZW_lose hz hg
    have n1 := (Z0_lose (f := g) hz.1).2.1
    have hxg := rd_xok (hz.2.1 g hg) hkd
    have hxg1 := xok_of n1 hxg
    have hk7 : k4 (zo z g 7) := by
      rcases (rd_ok (hz.2.1 g hg) hkd).1 with e | e
      · exact Or.inl e
      · exact Or.inr (Or.inr (Or.inl e))
    have hk73 : ¬ zo z g 7 = 3 := by
      rcases (rd_ok (hz.2.1 g hg) hkd).1 with e | e <;> rw [e] <;> decide
    obtain ⟨w1, w2⟩ := ZW_one (c := f) hz hg hf hkd
    have r4 : rA M 220 (8 * g + 4) = zo z g 7 := h.1 g hg 4 (by decide)
    have r5 : rA M 220 (8 * g + 5) = zo z g 8 := h.1 g hg 5 (by decide)
    obtain ⟨M1, a1, a2, a3, a4⟩ := forget_ok h hz.1 h6 hg
    have lv := lives_ok (f := g) a2 h1 (by rw [n1]; exact h6) (by rw [n1]; exact hg)
    have hB1 : SB zc (zlose z g) := ⟨hB.1.trans n1.symm, fun q hq => by
      rw [n1] at hq
      obtain ⟨b1, b2, b3⟩ := hB.2 q hq
      refine ⟨?_, ?_, ?_⟩
      · rw [b1, zlose_o (by decide), if_neg (by omega)]
      · rw [b2, zlose_o (by decide), if_neg (by omega)]
      · rw [b3, zlose_o (by decide), if_neg (by omega)]⟩
    have S1 : SJ M1 zc := SJ_LF hS a3
    have K1 : KF M M1 := KF_of (fun v q _ => a4 v (by omega))
    have hl2 : zo (zlose z g) g 2 = zo z g 2 := by rw [zlose_o (by decide), if_neg (by omega)]
    have hl11 : zo (zlose z g) g 11 = zo z g 11 := by rw [zlose_o (by decide), if_neg (by omega)]
    obtain ⟨st, hst, e11⟩ := (hz.2.1 g hg).2.2.2.2.2.2.2 0 (by decide)
    have e11' : zo z g 11 = nI st := e11
    have r11 : rA M1 221 (4 * g) = nI st := by rw [a4 221 (by decide)]; exact (h.2.1 g hg 0 (by decide)).trans e11
    -- behind its act: the row, and the others
    have key : ∀ (zz : Nat → Int32) (M2 : MS), zahead zz g f = zone z f g → LRt M2 zz (nI f) → ZW zz → zn zz = zn z → LF M M2 → KF M M2 → ∃ M', (bd (F_L_stand M2 (nI (zn z)) (nI g) (nI f) (0 : Int32)) fun M48 => (F_L_act_l145 kd x ci ri (nI f) (nI (zn z)) k (nI i + (1 : Int32)) M48)) = some ((if zo (zso f l (zone z f g)) f 2 = 0 then -1 else if zpos (zso f l (zone z f g)) f kd x = true then zdoR (zso f l (zone z f g)) f kd x c (nI r) else -1), M') ∧ LRt M' (zend (if zo (zso f l (zone z f g)) f 2 = 0 then upd (zso f l (zone z f g)) 4 (zso f l (zone z f g) 4 + 1) else if zpos (zso f l (zone z f g)) f kd x = true then zdo (zso f l (zone z f g)) f kd x c (nI r) else upd (zso f l (zone z f g)) 4 (zso f l (zone z f g) 4 + 1)) f) (zend (if zo (zso f l (zone z f g)) f 2 = 0 then upd (zso f l (zone z f g)) 4 (zso f l (zone z f g) 4 + 1) else if zpos (zso f l (zone z f g)) f kd x = true then zdo (zso f l (zone z f g)) f kd x c (nI r) else upd (zso f l (zone z f g)) 4 (zso f l (zone z f g) 4 + 1)) f 2) ∧ LF M M' := by
      intro zz M2 e hl9 hz9 hn9 hf9 hk9
      obtain ⟨M3, s1, s2, s3, s4⟩ := stand_ok false (f := g) (c := f) hl9 hz9 (by rw [hn9]; exact h6) (by rw [hn9]; exact hg) (by rw [hn9]; exact hf) hgf
      rw [hn9] at s1
      have s1' : F_L_stand M2 (nI (zn z)) (nI g) (nI f) 0 = some M3 := s1
      have s2' : LRt M3 (zone z f g) (nI f) := by rw [← e]; exact s2
      have K3 := KF_trans hk9 s4
      have hB3 : SB zc (zone z f g) := ⟨hB.1.trans w2.symm, fun q hq => by
        rw [w2] at hq
        obtain ⟨b1, b2, b3⟩ := hB.2 q hq
        exact ⟨by rw [b1, zone_st hz hg hf hkd (Or.inl rfl)], by rw [b2, zone_st hz hg hf hkd (Or.inr (Or.inl rfl))], by rw [b3, zone_st hz hg hf hkd (Or.inr (Or.inr rfl))]⟩⟩
      obtain ⟨M', g1, g2, g3⟩ := ih (i + 1) k M3 (zone z f g) (SJ_LF hS (LF_trans hf9 s3)) hB3 s2' w1 (by rw [w2]; exact h6) (by rw [w2]; exact hf) (xok_of w2 hx) (fun j a hj => by
        rw [K3.1, show i + 1 + j = i + (j + 1) by omega]
        exact hh (j + 1) a hj) (by rw [K3.2]; exact ht6) (by omega) hnd.2 (fun a ha => by
        obtain ⟨q1, q2, q3⟩ := hm a (List.mem_cons_of_mem _ ha)
        refine ⟨by rw [w2]; exact q1, ?_, q3⟩
        rw [zone_rd hz hg hf hkd (fun e => hnd.1 (by rw [← e]; exact ha))]
        exact q2) (by omega)
      rw [w2] at g1
      refine ⟨M', ?_, g2, LF_trans (LF_trans hf9 s3) g3⟩
      rw [s1', bd_s, nI_1]
      exact g1
    have u4 := ZW_up (g := 4) (x := zlose z g 4 + 1) h1 (by decide) (by decide)
    have nu4 : zn (upd (zlose z g) 4 (zlose z g 4 + 1)) = zn z := (zn_up h1.1 (by decide) (by decide)).trans n1
    have lu : LRt (wA M1 223 3 (zlose z g 4 + 1)) (upd (zlose z g) 4 (zlose z g 4 + 1)) (nI f) := LRt_t (g := 3) a2 h1.1 (by decide) (by decide)
    have rt3 : rA M1 223 3 = zlose z g 4 := a2.2.2.2.2 3 (by decide) (by decide)
    rw [F_L_act_l145]
    simp only [nm_k]
    rw [g76, tn6, ht6, if_neg (nI_ge (by omega) (by omega)), gdb_t (inb_nI (by omega) (by decide)), nI_clamp (n := i) (by omega), hrg, ix84, gdb_t (inb_nI (by omega) (by decide)), ix85, gdb_t (inb_nI (by omega) (by decide)), a1, bd_s, lv, bd_s, hl2, nI_clamp (by omega), nI_clamp (by omega), r4, r5, zso]
    by_cases c1 : zo z g 2 = 0
    · rw [if_pos c1, if_pos rfl, g73, g73, tn3, rt3]
      exact key _ _ (by unfold zone; rw [if_neg (fun q => q.1 c1)]) lu u4 nu4 (LF_trans a3 (LF_A (by decide))) (KF_trans K1 (KF_A ⟨by decide, Or.inr (by decide)⟩))
    rw [if_neg c1, if_neg (show ¬ (1 : Int32) = 0 by decide), ix4, gdb_t (inb_nI (by omega) (by decide)), nI_clamp (by omega), r11]
    by_cases c2 : st = 0
    · rw [c2, if_neg (fun q => q rfl), can_ok S1 hB1 a2 h1 (by rw [n1]; exact h6) (by rw [n1]; exact hg) hxg1 hk7, bd2_s]
      have c2' : ¬ 0 < zo z g 11 := by rw [e11', c2]; decide
      by_cases c3 : zpos (zlose z g) g (zo z g 7) (zo z g 8) = true
      · obtain ⟨M2, d1, d2, d3, d4⟩ := does_ok (c := 0) (r := 0) (ci := 0) (ri := 0) S1 hB1 a2 h1 (by rw [n1]; exact h6) (by rw [n1]; exact hg) hxg1 hk7 (by decide) (by decide) (fun q => absurd q hk73)
        obtain ⟨a, b⟩ := ZW_do (c := 0) (r := 0) (ri := 0) h1 (by rw [n1]; exact hg) hxg1 (by decide) (by decide) rfl
        rw [if_pos c3, if_neg (show ¬ (1 : Int32) = 0 by decide), d1, bd2_s]
        exact key _ _ (by unfold zone; rw [if_pos ⟨c1, c2', c3⟩]; rfl) d2 a (b.trans n1) (LF_trans a3 d3) (KF_trans K1 d4)
      · rw [if_neg c3, if_pos rfl, g73, g73, tn3, rt3]
        exact key _ _ (by unfold zone; rw [if_neg (fun q => c3 q.2.2)]) lu u4 nu4 (LF_trans a3 (LF_A (by decide))) (KF_trans K1 (KF_A ⟨by decide, Or.inr (by decide)⟩))
    · have c2' : 0 < zo z g 11 := by rw [e11']; exact nI_lt (a := 0) (by omega) (by omega)
      rw [if_pos (nI_ne0 (by omega) (by omega)), g73, g73, tn3, rt3]
      exact key _ _ (by unfold zone; rw [if_neg (fun q => q.2.1 c2')]) lu u4 nu4 (LF_trans a3 (LF_A (by decide))) (KF_trans K1 (KF_A ⟨by decide, Or.inr (by decide)⟩))
