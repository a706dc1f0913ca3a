theorem SB_refl {z : Nat → Int32} : SB z z := ⟨rfl, fun _ _ => ⟨rfl, rfl, rfl⟩⟩
theorem hasR_snoc {R : Nat → Int32} {l : List Nat} {g : Nat} (h : hasR R 0 l) : hasR (upd R l.length (nI g)) 0 (l ++ [g]) := by
  intro j a hj
  rw [Nat.zero_add]
  by_cases c : j < l.length
  · rw [List.getElem?_append_left c] at hj
    rw [upd_n (by omega)]
    have := h j a hj
    rw [Nat.zero_add] at this
    exact this
  · rw [List.getElem?_append_right (by omega)] at hj
    have h1 := (List.getElem?_eq_some_iff.mp hj).1
    simp only [List.length_cons, List.length_nil] at h1
    have h2 : j = l.length := by omega
    rw [h2, Nat.sub_self] at hj
    cases hj
    rw [h2, upd_s]
/-- which are set off -/
theorem act_list {kd x ci ri : Int32} {z : Nat → Int32} {f : Nat} (hz : ZW z) (h6 : zn z ≤ 6) (hf : f < zn z) : ∀ d i k (M : MS), i + d = zn z → d < k → SJ M z → LRt M z (nI f) → hasR (rA M 224) 0 (zsl z f kd i) → rA M 223 6 = nI (zsl z f kd i).length → ∃ M', F_L_act_l27 kd x ci ri (nI f) (nI (zn z)) k (nI i) M = F_L_act_l145 kd x ci ri (nI f) (nI (zn z)) 8 0 M' ∧ LRt M' z (nI f) ∧ hasR (rA M' 224) 0 (zsl z f kd (zn z)) ∧ rA M' 223 6 = nI (zsl z f kd (zn z)).length ∧ LF M M' := by
  intro d
  induction d with
  | zero =>
    intro i k M hi hk hS h hh ht
    obtain ⟨k, rfl⟩ : ∃ q, k = q + 1 := ⟨k - 1, by omega⟩
    have e : i = zn z := by omega
    subst e
    rw [F_L_act_l27, if_pos (nI_le (Nat.le_refl _) (by omega))]
    exact ⟨M, rfl, h, hh, ht, LF_refl⟩
  | succ d ih =>
    intro i k M hi hk hS h hh ht
    obtain ⟨k, rfl⟩ : ∃ q, k = q + 1 := ⟨k - 1, by omega⟩
    have hin : i < zn z := by omega
    obtain ⟨r1, r2⟩ := hz.1.2.2.1 i hin
    obtain ⟨g, hg⟩ : ∃ g, g = zrow z i := ⟨_, rfl⟩
    rw [← hg] at r1 r2
    have hlen := zsl_len (z := z) (c := f) (kd := kd) i
    have hfw := hz.2.1 g r2
    have q4 : rA M 220 (8 * g + 4) = zo z g 7 := h.1 g r2 4 (by decide)
    have q6 : rA M 220 (8 * g + 6) = zo z g 9 := h.1 g r2 6 (by decide)
    have q7 : rA M 220 (8 * g + 7) = zo z g 10 := h.1 g r2 7 (by decide)
    -- passed by
    have skip : zset z g f kd = false → ∃ M', F_L_act_l27 kd x ci ri (nI f) (nI (zn z)) k (nI i + (1 : Int32)) M = F_L_act_l145 kd x ci ri (nI f) (nI (zn z)) 8 0 M' ∧ LRt M' z (nI f) ∧ hasR (rA M' 224) 0 (zsl z f kd (zn z)) ∧ rA M' 223 6 = nI (zsl z f kd (zn z)).length ∧ LF M M' := by
      intro hs
      have e1 : zsl z f kd (i + 1) = zsl z f kd i := by rw [zsl, ← hg, hs]; rfl
      rw [nI_1]
      exact ih (i + 1) k M (by omega) (by omega) hS h (by rw [e1]; exact hh) (by rw [e1]; exact ht)
    -- taken
    have take : zset z g f kd = true → ∃ M', (gdb (inb (6 : Int32) 7) (gdb (inb (rA M 223 (Int32.toNatClampNeg (6 : Int32))) 6) (gdb (inb (6 : Int32) 7) (gdb (inb (6 : Int32) 7) (F_L_act_l27 kd x ci ri (nI f) (nI (zn z)) k (nI i + (1 : Int32)) (wA (wA M 224 (Int32.toNatClampNeg (rA M 223 (Int32.toNatClampNeg (6 : Int32)))) (nI g)) 223 (Int32.toNatClampNeg (6 : Int32)) ((rA (wA M 224 (Int32.toNatClampNeg (rA M 223 (Int32.toNatClampNeg (6 : Int32)))) (nI g)) 223 (Int32.toNatClampNeg (6 : Int32))) + (1 : Int32)))))))) = F_L_act_l145 kd x ci ri (nI f) (nI (zn z)) 8 0 M' ∧ LRt M' z (nI f) ∧ hasR (rA M' 224) 0 (zsl z f kd (zn z)) ∧ rA M' 223 6 = nI (zsl z f kd (zn z)).length ∧ LF M M' := by
      intro hs
      have e1 : zsl z f kd (i + 1) = zsl z f kd i ++ [g] := by rw [zsl, ← hg, if_pos hs]
      have lf : LF M (wA (wA M 224 (zsl z f kd i).length (nI g)) 223 6 (nI ((zsl z f kd i).length + 1))) := LF_trans (LF_A (by decide)) (LF_A (by decide))
      obtain ⟨M', a1, a2, a3, a4, a5⟩ := ih (i + 1) k (wA (wA M 224 (zsl z f kd i).length (nI g)) 223 6 (nI ((zsl z f kd i).length + 1))) (by omega) (by omega) (SJ_LF hS lf) (LRt_6 (LRt_x h (by decide))) (by rw [e1, rA_wAn (by decide), rA_wA]; exact hasR_snoc hh) (by rw [e1, rA_wA, upd_s, List.length_append]; rfl)
      refine ⟨M', ?_, a2, a3, a4, LF_trans lf a5⟩
      rw [g76, tn6, ht, gdb_t (inb_nI (by omega) (by decide)), g76, g76, nI_clamp (by omega), rA_wAn (by decide), ht, nI_1, nI_1]
      exact a1
    rw [F_L_act_l27, if_neg (nI_ge (by omega) (by omega)), gdb_t (inb_nI (by omega) (by decide)), nI_clamp (n := i) (by omega), h.2.2.1 i hin, r1]
    simp only [nm_k]
    rw [ix86, gdb_t (inb_nI (by omega) (by decide)), nI_clamp (n := 8 * g + 6) (by omega), q6, lives_ok h hz h6 r2, bd_s]
    by_cases c1 : zo z g 2 = 0
    · rw [if_pos c1, if_pos rfl]
      exact skip (by unfold zset; simp [c1])
    rw [if_neg c1, if_neg (show ¬ (1 : Int32) = 0 by decide), ix84, gdb_t (inb_nI (by omega) (by decide)), nI_clamp (n := 8 * g + 4) (by omega), q4]
    rcases hfw.2.2.2.2.2.2.1 with ⟨e7, e8, e9, e10⟩ | ⟨e7, ⟨g8, hg8, e8⟩, e9, ⟨c10, hc10, e10⟩⟩
    · rw [e7, if_pos (by decide)]
      exact skip (by unfold zset; simp [e7])
    have n7 : ¬ zo z g 7 = -1 := by rcases e7 with e | e <;> rw [e] <;> decide
    rw [if_neg (show ¬ zo z g 7 < 0 by rcases e7 with e | e <;> rw [e] <;> decide), ix87, gdb_t (inb_nI (by omega) (by decide)), nI_clamp (n := 8 * g + 7) (by omega), q7]
    by_cases c10' : zo z g 10 = kd
    · rw [if_neg (fun q => q c10')]
      by_cases c9 : zo z g 9 = nI f
      · rw [if_pos c9]
        exact take (by unfold zset; simp [n7, c1, c10', c9])
      · rw [if_neg c9]
        rcases e9 with e9 | ⟨g9, hg9, e9⟩
        · rw [e9, if_neg (by decide), cf_0 hS SB_refl r2, bd0_s, cf_0 hS SB_refl hf, bd0_s]
          by_cases c0 : zo z g 0 = zo z f 0
          · rw [if_pos c0]
            exact skip (by unfold zset; simp [c0]; intro _ _ _; exact c9)
          · rw [if_neg c0]
            exact take (by unfold zset; simp [n7, c1, c10', e9, c0])
        · rw [e9, if_pos (nI_pos' (by omega))]
          refine skip ?_
          have ne : ¬ zo z g 9 = -1 := by rw [e9]; exact ne1 _ (by omega)
          unfold zset
          simp [c9, ne]
    · rw [if_pos c10']
      exact skip (by unfold zset; simp [c10'])
theorem act_ok {M : MS} {kd x ci ri : Int32} {z : Nat → Int32} {f c r : Nat} (hS : SJ M z) (h : LRt M z (nI f)) (hz : ZW z) (h6 : zn z ≤ 6) (hf : f < zn z) (h7 : zo z f 7 = -1) (hx : xok z kd x) (hk : k4 kd) (hc : c < 4) (hr : r ≤ 5) (hci : kd = 3 → ci = nI c ∧ ri = nI r) : ∃ M', F_L_act M kd x ci ri = some (zactR z f kd x c (nI r), M') ∧ LRt M' (zact z f kd x c (nI r)) (zact z f kd x c (nI r) 2) ∧ LF M M' := by
  have lf : LF M (wA (wZ M 224) 223 6 0) := LF_trans (LF_Z (by decide)) (LF_A (by decide))
  have l0 : LRt (wA (wZ M 224) 223 6 0) z (nI f) := LRt_6 (LRt_Z h (by decide))
  obtain ⟨M1, a1, a2, a3, a4, a5⟩ := act_list (kd := kd) (x := x) (ci := ci) (ri := ri) hz h6 hf (zn z) 0 8 _ (by omega) (by omega) (SJ_LF hS lf) l0 (fun j a hj => by simp [zsl] at hj) (by rw [rA_wA, upd_s]; rfl)
  have hlen := zsl_len (z := z) (c := f) (kd := kd) (zn z)
  obtain ⟨M2, b1, b2, b3⟩ := act_set (f := f) (c := c) (r := r) hk hc hr hci (N := (zsl z f kd (zn z)).length) (by omega) (zsl z f kd (zn z)) 0 8 M1 z (SJ_LF hS (LF_trans lf a5)) SB_refl a2 hz h6 hf hx a3 a4 (by omega) (zsl_nodup hz.1 _ (Nat.le_refl _)) (fun a ha => by
    obtain ⟨m1, i, hi, e⟩ := zsl_mem _ ha
    refine ⟨by rw [e]; exact (hz.1.2.2.1 i hi).2, zset_kd m1, fun q => zset_kd m1 (by rw [q]; exact h7)⟩) (by omega)
  refine ⟨M2, ?_, b2, LF_trans (LF_trans lf a5) b3⟩
  rw [F_L_act, g70, tn0, nm_k, h.2.2.2.1, g75, tn5, nm_k, h.2.2.2.2 5 (by decide) (by decide), show z (tw 5) = z 0 from rfl, hz.1.1, nm_k, g76, tn6, nm_k]
  exact a1.trans b1
