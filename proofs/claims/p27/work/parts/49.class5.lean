/-! the class's begin; copies -/
theorem zgo_fuel : ∀ m (z : Nat → Int32) (p m' : Nat), ZW z → p ≤ zn z → zmu z (zn z) < m → m ≤ m' → zgo m' z p = zgo m z p := by
  intro m
  induction m with
  | zero => intro z p m' _ _ h; omega
  | succ m ih =>
    intro z p m' hz hp hmu hm
    obtain ⟨m', rfl⟩ : ∃ q, m' = q + 1 := ⟨m' - 1, by omega⟩
    rw [zgo, zgo]
    by_cases ha : zall z (zn z) = true
    · rw [if_pos ha, if_pos ha]
    rw [if_neg ha, if_neg ha]
    obtain ⟨f, hf, hn, hz1, hn1, h1, h6, ho, hr⟩ := znext_ok hz.1 hp ha
    have hb := hz.1.2.1
    have hcl : (znext z p).2.toNatClampNeg = f := by rw [hn, nI_clamp (by omega)]
    rw [hcl]
    have hw1 : ZW (znext z p).1 := ZW_next hz
    have hw2 : ZW (zbeg (znext z p).1 f) := ZW_beg hw1 (by rw [hn1]; exact hf)
    have hn2 : zn (zbeg (znext z p).1 f) = zn z := (Z0_beg hz1).2.1.trans hn1
    by_cases hc : zo (zbeg (znext z p).1 f) f 2 = 0 ∨ 0 < zo (zbeg (znext z p).1 f) f 11
    · rw [if_pos hc, if_pos hc]
      have hw3 : ZW (zpass (zbeg (znext z p).1 f) f 4) := ZW_pass hw2 (by rw [hn2]; exact hf) 4 (by decide)
      have hn3 : zn (zpass (zbeg (znext z p).1 f) f 4) = zn z := (Z0_pass hw2.1).2.1.trans hn2
      obtain ⟨c1, c2, c3⟩ := zpn_lt hw3.1 (f := f) (by rw [hn3]; exact hf)
      exact ih _ _ m' hw3 (by omega) (by rw [hn3]; have := zgo_step hz.1 hp ha hf hn h1 hz1 ho hc; omega) (by omega)
    · rw [if_neg hc, if_neg hc]
def NB (M : MS) (v : Nat) : Prop := rF M 2 (v + 15) = 0 ∧ rF M 7 (v + 15) = 0
def BRel (M0 : MS) (v : Nat) (R : Nat → Int32) (z : Nat → Int32) (M : MS) (m : Nat) : Prop :=
  (rF M 52 v = z 0 ∧ rF M 53 v = z 1 ∧ rF M 54 v = z 2 ∧ rF M 56 v = z 3 ∧ rF M 57 v = z 4 ∧ rF M 55 v = z 5) ∧ (rF M 33 (v + 2) = nI m ∧ ∀ i, i < m → rA M (v + 2 + 1) i = nI (br (zI z) m i)) ∧ (∀ f, f < zn z → ∀ w, w < 17 → cfo M v f w = zo (zloses z m) f w) ∧ NB M v ∧ CFR v M0 M ∧ rA M (v + 4) = R
def flst : List (Nat × Int32) := [(7, -1), (8, -1), (9, -1), (10, -1)]
theorem flst_w : ∀ p, p ∈ flst → p.1 < 17 := by
  intro p hp
  simp only [flst, List.mem_cons, List.not_mem_nil, or_false] at hp
  rcases hp with rfl | rfl | rfl | rfl <;> dsimp only <;> omega
theorem flst_v {w : Nat} {d : Int32} (hw : w < 17) : lk w d flst = if 7 ≤ w ∧ w ≤ 10 then -1 else d := by
  rcases (show w = 0 ∨ w = 1 ∨ w = 2 ∨ w = 3 ∨ w = 4 ∨ w = 5 ∨ w = 6 ∨ w = 7 ∨ w = 8 ∨ w = 9 ∨ w = 10 ∨ w = 11 ∨ w = 12 ∨ w = 13 ∨ w = 14 ∨ w = 15 ∨ w = 16 by omega) with rfl | rfl | rfl | rfl | rfl | rfl | rfl | rfl | rfl | rfl | rfl | rfl | rfl | rfl | rfl | rfl | rfl <;> rfl
theorem brel_up {M0 M : MS} {v m : Nat} {R z : Nat → Int32} (hz : ZW z) (h : BRel M0 v R z M m) (hm : m < zn z) : ∃ M1 M2, F_X0_forgetReadied M (v + 1 + 4 + m) = some M1 ∧ F_X3_lineUp M1 v (nI m) = some M2 ∧ BRel M0 v R z M2 (m + 1) := by
  obtain ⟨⟨a0, a1, a2, a3, a4, a5⟩, ⟨b1, b2⟩, c1, ⟨d1, d2⟩, ⟨e1, e2, e3⟩, r⟩ := h
  have hb := hz.1.2.1
  have h10 : m < 10 := by omega
  obtain ⟨M1, hM1⟩ : ∃ M1, cws v m M flst = M1 := ⟨_, rfl⟩
  have hfor : F_X0_forgetReadied M (v + 1 + 4 + m) = some M1 := by rw [← hM1]; rfl
  obtain ⟨k1, k2, k3⟩ := br_ok (I := zI z) m
  have f52 : rF M1 52 v = nI (zn z) := by rw [← hM1, cws_F h10 (by omega), a0, hz.1.1]
  have f33 : rF M1 33 (v + 2) = nI m := by rw [← hM1, cws_F h10 (by omega), b1]
  have frow : rA M1 (v + 2 + 1) = rA M (v + 2 + 1) := by rw [← hM1, cws_A h10 (by omega)]
  have fcf : ∀ g w, g < zn z → w < 17 → cfo M1 v g w = zo (zloses z (m + 1)) g w := fun g w hg hw => by
    rw [← hM1, cfo_cws h10 (by omega) hw _ _ flst_w, c1 g hg w hw, c1 m hm w hw, zloses_o hw, zloses_o hw, zloses_o hw, flst_v hw]
    by_cases e : g = m
    · subst e
      rw [if_pos rfl]
      by_cases q : 7 ≤ w ∧ w ≤ 10
      · rw [if_pos q, if_pos (show g < g + 1 ∧ 7 ≤ w ∧ w ≤ 10 from ⟨by omega, q⟩)]
      · rw [if_neg q, if_neg (fun r => q r.2), if_neg (fun r => q r.2)]
    · rw [if_neg e]
      by_cases q : g < m ∧ 7 ≤ w ∧ w ≤ 10
      · rw [if_pos q, if_pos (by omega)]
      · rw [if_neg q, if_neg (by omega)]
  have fini : ∀ g, g < zn z → rF M1 1 (v + 1 + 4 + g) = zI z g := fun g hg => by
    have := fcf g 1 hg (by decide)
    rw [zloses_o (by decide), if_neg (by omega)] at this
    exact this
  have hl := lineUp_eq (M := M1) (v := v) (f := m) (m := m) (ρ := br (zI z) m) f52 hb hm f33 h10 (fun j hj => by
    rw [frow, b2 j hj]
    exact ⟨rfl, by have := k1 j hj; omega⟩)
  have hat : fin (fun j => rF M1 1 (v + 1 + 4 + br (zI z) m j)) (rF M1 1 (v + 1 + 4 + m)) m 0 = fin (fun p => zI z (br (zI z) m p)) (zI z m) m 0 := by
    rw [fini m hm]
    exact fin_same _ _ (fun j _ hj => fini _ (by have := k1 j (by omega); omega))
  rw [hat] at hl
  have fo := fin_ok (a := fun p => zI z (br (zI z) m p)) (x := zI z m) m 0
  obtain ⟨t, ht⟩ : ∃ t, fin (fun p => zI z (br (zI z) m p)) (zI z m) m 0 = t := ⟨_, rfl⟩
  rw [ht] at hl fo
  refine ⟨M1, _, hfor, hl, ⟨?_, ?_, ?_, ?_, ?_, ?_⟩, ⟨rF_self, fun j hj => ?_⟩, fun g hg w hw => ?_, ⟨?_, ?_⟩, ⟨fun c u hu => ?_, fun u hu => ?_, ?_⟩, ?_⟩
  · rw [rF_wF, if_neg (by omega), pr_F, ← hM1, cws_F h10 (by omega), a0]
  · rw [rF_wF, if_neg (by omega), pr_F, ← hM1, cws_F h10 (by omega), a1]
  · rw [rF_wF, if_neg (by omega), pr_F, ← hM1, cws_F h10 (by omega), a2]
  · rw [rF_wF, if_neg (by omega), pr_F, ← hM1, cws_F h10 (by omega), a3]
  · rw [rF_wF, if_neg (by omega), pr_F, ← hM1, cws_F h10 (by omega), a4]
  · rw [rF_wF, if_neg (by omega), pr_F, ← hM1, cws_F h10 (by omega), a5]
  · rw [rA_wF, pr_A, br, ht, frow]
    unfold insN
    by_cases q : j = t
    · rw [if_pos q, q, upd_s]
    · rw [if_neg q, upd_n q]
      unfold ins
      by_cases q2 : t < j ∧ j ≤ m
      · rw [if_pos q2, if_pos q2, b2 (j - 1) (by omega)]
      · rw [if_neg q2, if_neg q2, b2 j (by omega)]
  · rw [← fcf g w hg hw]
    rcases w_cases w with h | h | h | h | h
    · rw [cfo_1 h, cfo_1 h, rF_wF, if_neg (by omega), pr_F]
    · rw [cfo_2 h, cfo_2 h, rF_wF, if_neg (by omega), pr_F]
    · rw [cfo_3 h, cfo_3 h, rF_wF, if_neg (by omega), pr_F]
    · rw [cfo_4 h, cfo_4 h, rA_wF, pr_An (by omega)]
    · rw [cfo_5 h, cfo_5 h, rF_wF, if_neg (by omega), pr_F]
  · rw [rF_wF, if_neg (by omega), pr_F, ← hM1, cws_F h10 (by omega), d1]
  · rw [rF_wF, if_neg (by omega), pr_F, ← hM1, cws_F h10 (by omega), d2]
  · rw [rF_wF, if_neg (by omega), pr_F, ← hM1, cws_F h10 (by omega), e1 c u hu]
  · rw [rA_wF, pr_An (by omega), ← hM1, cws_A h10 (by omega), e2 u hu]
  · rw [← e3, ← cws_R (v := v) (f := m) flst M, hM1]
    rfl
  · rw [rA_wF, pr_An (by omega), ← hM1, cws_A h10 (by omega), r]
def btail (v : Nat) (M3 : MS) : Option MS := (nm (wF M3 53 v (1 : Int32)) fun M5 => (bd (F_X3_endDelays M5 v) fun M7 => (bd (F_X3_nextFrom M7 v (0 : Int32)) fun r9 => (nm (wF M7 54 v r9) fun M10 => (if (rF M10 54 v) = (-1 : Int32) then (some M10) else (bd2 (F_X3_beginTurn M10 v) fun r14 M13 => (if ¬ r14 = 0 then (some M13) else (bd (F_X3_endTurn M13 v) fun M17 => (some M17)))))))))
theorem cbegl_l {M0 : MS} {v : Nat} {R z : Nat → Int32} (hz : ZW z) : ∀ d m k (M : MS), m + d = zn z → d < k → BRel M0 v R z M m → ∃ M', F_X3_beginAnew_l10 v k (nI m) M = btail v M' ∧ BRel M0 v R z M' (zn z) := by
  have hb := hz.1.2.1
  intro d
  induction d with
  | zero =>
    intro m k M hm hk h
    obtain ⟨k, rfl⟩ : ∃ q, k = q + 1 := ⟨k - 1, by omega⟩
    have e : m = zn z := by omega
    subst e
    rw [F_X3_beginAnew_l10, h.1.1, if_pos ((z0_le hz.1 (by omega)).mpr (by omega))]
    exact ⟨M, rfl, h⟩
  | succ d ih =>
    intro m k M hm hk h
    obtain ⟨k, rfl⟩ : ∃ q, k = q + 1 := ⟨k - 1, by omega⟩
    obtain ⟨M1, M2, g1, g2, g3⟩ := brel_up hz h (by omega)
    rw [F_X3_beginAnew_l10, h.1.1, if_neg (fun q => by have := (z0_le hz.1 (by omega)).mp q; omega), atN (N := zn z) (by rw [h.1.1, hz.1.1]) hb (by omega), bd_s, g1, bd_s, g2, bd_s, nm_k, nI_1]
    exact ih (m + 1) k M2 (by omega) (by omega) g3
theorem del_up {z : Nat → Int32} {m : Nat} {x : Int32} : zdel (upd z 1 x) m = upd (zdel z m) 1 x := by
  refine z_ext (fun j hj => ?_) (fun f w hw => by rw [zdel_o hw, zo_lo (by decide), zo_lo (by decide), zdel_o hw])
  rw [zdel_lo hj]
  by_cases e : j = 1
  · rw [e, upd_s, upd_s]
  · rw [upd_n e, upd_n e, zdel_lo hj]
theorem cbegin_eq {M0 M : MS} {v : Nat} {R z : Nat → Int32} (h : CR M0 v R M z) (hz : ZW z) : ∃ M', F_X3_beginAnew M v = some M' ∧ CR M0 v R M' (zbegin z) := by
  have hb := hz.1.2.1
  obtain ⟨_, ⟨⟨a0, a1, a2, a3, a4, a5⟩, ⟨b1, b2⟩, c1, d1, d2⟩, ⟨e1, e2, e3⟩, r⟩ := id h
  have h0 : BRel M0 v R z (wF M 33 (v + 2) 0) 0 := by
    refine ⟨⟨?_, ?_, ?_, ?_, ?_, ?_⟩, ⟨rF_self, fun i hi => by omega⟩, fun f hf w hw => ?_, ⟨?_, ?_⟩, ⟨fun c u hu => ?_, e2, e3⟩, r⟩
    · rw [rF_wF, if_neg (by omega), a0]
    · rw [rF_wF, if_neg (by omega), a1]
    · rw [rF_wF, if_neg (by omega), a2]
    · rw [rF_wF, if_neg (by omega), a3]
    · rw [rF_wF, if_neg (by omega), a4]
    · rw [rF_wF, if_neg (by omega), a5]
    · rw [zloses, ← c1 f hf w hw]
      rcases w_cases w with h | h | h | h | h
      · rw [cfo_1 h, cfo_1 h, rF_wF, if_neg (by omega)]
      · rw [cfo_2 h, cfo_2 h, rF_wF, if_neg (by omega)]
      · rw [cfo_3 h, cfo_3 h, rF_wF, if_neg (by omega)]
      · rw [cfo_4 h, cfo_4 h, rA_wF]
      · rw [cfo_5 h, cfo_5 h, rF_wF, if_neg (by omega)]
    · rw [rF_wF, if_neg (by omega), d1]
    · rw [rF_wF, if_neg (by omega), d2]
    · rw [rF_wF, if_neg (by omega), e1 c u hu]
  obtain ⟨M1, g1, g2⟩ := cbegl_l hz (zn z) 0 FU _ (by omega) (by rw [FU_s]; omega) h0
  obtain ⟨w0, n0⟩ := ZW_b0 hz
  -- behind the loop: the block holds zb0
  have hlo : ∀ j, j < 6 → zb0 z j = z j := fun j hj => by unfold zb0; rw [zloses_lo (by omega), zbr_else (by omega)]
  have hcr : CR M0 v R M1 (zb0 z) := by
    obtain ⟨⟨p0, p1, p2, p3, p4, p5⟩, ⟨q1, q2⟩, s1, ⟨t1, t2⟩, u1, u2⟩ := g2
    refine ⟨w0.1, ⟨⟨by rw [hlo 0 (by decide), p0], by rw [hlo 1 (by decide), p1], by rw [hlo 2 (by decide), p2], by rw [hlo 3 (by decide), p3], by rw [hlo 4 (by decide), p4], by rw [hlo 5 (by decide), p5]⟩, ⟨by rw [hlo 0 (by decide), q1, hz.1.1], fun i hi => ?_⟩, fun f hf w hw => ?_, t1, t2⟩, u1, u2⟩
    · rw [n0] at hi
      rw [q2 i hi]
      unfold zb0
      rw [zloses_lo (by omega), zbr_row hi]
    · rw [n0] at hf
      rw [s1 f hf w hw]
      unfold zb0
      rw [zloses_o hw, zloses_o hw, zbr_o hb]
  rw [F_X3_beginAnew, nm_k]
  have g1' : F_X3_beginAnew_l10 v FU 0 (wF M 33 (v + 2) 0) = btail v M1 := g1
  rw [g1']
  unfold btail
  rw [nm_k]
  have k1 := CR_glob (x := 1) hcr (show gpair 53 1 by unfold gpair; omega)
  have n1 : zn (upd (zb0 z) 1 1) = zn z := (zn_up w0.1 (by decide) (by decide)).trans n0
  obtain ⟨M7, k2, k3⟩ := cdel_eq k1
  rw [n1, del_up] at k3
  obtain ⟨wy, ny⟩ := ZW_b1 hz
  have k4 : CR M0 v R M7 (zb1' z) := k3
  have e3' : (0 : Int32) = nI 0 := rfl
  rw [k2, bd_s, e3', cnext_eq wy k4.2.1 (Nat.zero_le _), bd_s, nm_k, rF_self, ny, Nat.sub_zero]
  -- nobody delays
  have hdel : ∀ f, f < zn z → zo (zb1' z) f 6 = 0 := fun f hf => by
    unfold zb1'
    rw [zo_lo (by decide), zdel_o (by decide), if_pos ⟨hf, rfl⟩]
  have hmu := zmu_60 wy
  rw [ny] at hmu
  unfold zbegin
  rw [zgo, ny]
  by_cases ha : zall (zb1' z) (zn z) = true
  · rw [if_pos ha]
    have hx : znx (zb1' z) (zn z) 0 = -1 := by
      rcases znx_range wy.1 (zn z) 0 (by omega) with ⟨q1, _⟩ | ⟨i, q1, q2, q3, q4, q5⟩
      · exact q1
      · rw [ny] at q2
        exact absurd ((zall_iff _).mp ha _ (by have := (wy.1.2.2.1 i (by omega)).2; omega)) q4
    rw [hx, if_pos rfl]
    exact ⟨_, rfl, CR_glob (x := -1) k4 (show gpair 54 2 by unfold gpair; omega)⟩
  · rw [if_neg ha]
    have hx : ¬ znx (zb1' z) (zn z) 0 = -1 := by
      intro hx
      rcases znx_range wy.1 (zn z) 0 (by omega) with ⟨q1, q2⟩ | ⟨i, q1, q2, q3, q4, q5⟩
      · refine ha ((zall_iff _).mpr (fun f hf => ?_))
        obtain ⟨i, hi, e⟩ := zrow_onto wy.1 (f := f) (by rw [ny]; exact hf)
        have h6 := q2 i (Nat.zero_le _) hi
        rw [e] at h6
        exact Classical.byContradiction (fun q => h6 ⟨q, hdel f hf⟩)
      · rw [q3] at hx
        exact ne1 _ (by have := (wy.1.2.2.1 i q2).2; omega) hx
    have en : znext (zb1' z) 0 = (zb1' z, znx (zb1' z) (zn z) 0) := by
      unfold znext
      rw [ny, Nat.sub_zero, if_neg hx]
    obtain ⟨f, hf, hn, hz1, hn1, h1, h6, ho, hr⟩ := znext_ok wy.1 (p := 0) (Nat.zero_le _) (by rw [ny]; exact ha)
    rw [en] at hn hz1 hn1 h1 h6 ho hr
    have hcl : (znext (zb1' z) 0).2.toNatClampNeg = f := by rw [en]; show (znx (zb1' z) (zn z) 0).toNatClampNeg = f; rw [show znx (zb1' z) (zn z) 0 = nI f from hn, nI_clamp (by omega)]
    rw [hcl, en]
    have hnf : znx (zb1' z) (zn z) 0 = nI f := hn
    rw [hnf, if_neg (ne1 f (by omega))]
    dsimp only
    have k5 := CR_glob (x := nI f) k4 (show gpair 54 2 by unfold gpair; omega)
    have hw3 := ZW_up (g := 2) (x := nI f) wy (by decide) (by decide)
    have n3 := zn_up (g := 2) (x := nI f) wy.1 (by decide) (by decide)
    obtain ⟨M13, q1, q2⟩ := cbegin_l k5 hw3 (f := f) (by rw [n3]; exact hf) upd_s
    rw [zbeg_up] at q1 q2
    have hw4 : ZW (zbeg (zb1' z) f) := ZW_beg wy hf
    have n4 : zn (zbeg (zb1' z) f) = zn z := (Z0_beg wy.1).2.1.trans ny
    rw [q1, bd2_s]
    by_cases hc : zo (zbeg (zb1' z) f) f 2 = 0 ∨ 0 < zo (zbeg (zb1' z) f) f 11
    · have e0 : (if zo (zbeg (zb1' z) f) f 2 = 0 then (0 : Int32) else if 0 < zo (zbeg (zb1' z) f) f 11 then 0 else 1) = 0 := by
        by_cases q : zo (zbeg (zb1' z) f) f 2 = 0
        · rw [if_pos q]
        · rw [if_neg q, if_pos (hc.resolve_left q)]
      rw [e0, if_neg (fun q => q rfl), if_pos hc]
      obtain ⟨M17, s1, s2⟩ := cend_eq q2 hw4 (f := f) (by rw [n4]; omega) (by rw [zbeg_lo (by decide)]; rfl)
      have hw5 := ZW_pass hw4 (f := f) (by rw [n4]; omega) 4 (by decide)
      have n5 : zn (zpass (zbeg (zb1' z) f) f 4) = zn z := (Z0_pass hw4.1).2.1.trans n4
      obtain ⟨c1, c2, c3⟩ := zpn_lt hw5.1 (f := f) (by rw [n5]; omega)
      have hmu5 := zmu_60 hw5
      unfold zend at s2
      rw [zgo_fuel 99 _ _ 100 hw5 (by omega) (by omega) (by omega)] at s2
      rw [s1, bd_s]
      exact ⟨M17, rfl, s2⟩
    · have e0 : (if zo (zbeg (zb1' z) f) f 2 = 0 then (0 : Int32) else if 0 < zo (zbeg (zb1' z) f) f 11 then 0 else 1) = 1 := by
        rw [if_neg (fun q => hc (Or.inl q)), if_neg (fun q => hc (Or.inr q))]
      rw [e0, if_pos (show ¬ (1 : Int32) = nI 0 by decide), if_neg hc]
      exact ⟨M13, rfl, q2⟩
/-- copies -/
theorem rF_wC {M : MS} {a b sp dp n c u : Nat} : rF (wC M a b sp dp n) c u = rF M c u := rfl
theorem rA_wC {M : MS} {a b sp dp n u : Nat} : rA (wC M a b sp dp n) u = if u = b then va_cpy (rA M a) (rA M b) sp dp n else rA M u := rfl
theorem copyF {M : MS} {a b : Nat} (hab : b ≠ a) (hd : rF M 7 b = 0 ∨ rF M 7 b = 1) : ∃ M', F_X0_copyFrom M a b = some M' ∧ (∀ c u, u ≠ a → rF M' c u = rF M c u) ∧ (∀ c, c ≤ 13 → c ≠ 6 → rF M' c a = rF M c b) ∧ (∀ u, u ≠ a + 11 → rA M' u = rA M u) ∧ (∀ i, i < 4 → rA M' (a + 11) i = rA M (b + 11) i) ∧ M'.2.2 = M.2.2 := by
  have hg : ((rF M 7 b == 0 || rF M 7 b == 1) : Bool) = true := by rcases hd with e | e <;> rw [e] <;> decide
  simp only [F_X0_copyFrom, nm_k, rF_wF, rF_wC, hab, and_false, if_false]
  rw [gdb_t hg]
  refine ⟨_, rfl, fun c u hu => ?_, fun c hc h6 => ?_, fun u hu => ?_, fun i hi => ?_, rfl⟩
  · simp only [rF_wF, rF_wC, hu, and_false, if_false]
  · rcases (show c = 0 ∨ c = 1 ∨ c = 2 ∨ c = 3 ∨ c = 4 ∨ c = 5 ∨ c = 7 ∨ c = 8 ∨ c = 9 ∨ c = 10 ∨ c = 11 ∨ c = 12 ∨ c = 13 by omega) with rfl | rfl | rfl | rfl | rfl | rfl | rfl | rfl | rfl | rfl | rfl | rfl | rfl <;> simp [rF_wF, rF_wC]
  · simp only [rA_wF, rA_wC, if_neg hu]
  · simp only [rA_wF, rA_wC, if_true]
    have t0 : Int32.toNatClampNeg 0 = 0 := tn0
    have t4 : Int32.toNatClampNeg 4 = 4 := tn4
    rw [t0, t4, pk_cpy_in (by omega) (by omega)]
    congr 1
    omega
def CPI (M : MS) (v : Nat) (z : Nat → Int32) (M' : MS) (i : Nat) : Prop := rF M' 52 v = z 0 ∧ NB M' v ∧ rA M' (v + 4) = rA M (v + 4) ∧ CFR v M M' ∧ ∀ f, f < i → ∀ w, w < 17 → cfo M' v f w = zo z f w
theorem copy_l {M : MS} {v w0 : Nat} {z : Nat → Int32} (hz : ZW z) (h : CZ M w0 z) (hd : v + 27 ≤ w0 ∨ w0 + 27 ≤ v) : ∀ d i k (M' : MS), i + d = zn z → d < k → CPI M v z M' i → ∃ M'', F_X3_copyFrom_l10 v w0 k (nI i) M' = some M'' ∧ CR M v (rA M (v + 4)) M'' z := by
  have hb := hz.1.2.1
  intro d
  induction d with
  | zero =>
    intro i k M' hi hk hp
    obtain ⟨k, rfl⟩ : ∃ q, k = q + 1 := ⟨k - 1, by omega⟩
    have e : i = zn z := by omega
    subst e
    obtain ⟨p0, ⟨p1, p2⟩, p3, ⟨p4, p5, p6⟩, p7⟩ := hp
    obtain ⟨⟨a0, a1, a2, a3, a4, a5⟩, ⟨b1, b2⟩, c1, d1, d2⟩ := h
    have hv : w0 ≠ v := by omega
    have hv2 : w0 + 2 ≠ v + 2 := by omega
    have src : ∀ c, rF M' c w0 = rF M c w0 := fun c => p4 c w0 (by omega)
    have src2 : rF M' 33 (w0 + 2) = z 0 := by rw [p4 33 (w0 + 2) (by omega), b1]
    have h1 : w0 ≠ v + 2 := by omega
    rw [F_X3_copyFrom_l10, nm_k, p0, if_pos ((z0_le hz.1 (by omega)).mpr (by omega)), F_X2_copyFrom]
    simp only [nm_k, bd_s, rF_wF, rF_wC, hv, hv2, h1, and_false, if_false, src, a1, a2, a3, a4, a5, src2]
    refine ⟨_, rfl, hz.1, ⟨⟨?_, ?_, ?_, ?_, ?_, ?_⟩, ⟨?_, fun j hj => ?_⟩, fun f hf w hw => ?_, ?_, ?_⟩, ⟨fun c u hu => ?_, fun u hu => ?_, p6⟩, ?_⟩
    · simp only [rF_wF, rF_wC]; simp; exact p0
    · simp [rF_wF, rF_wC]
    · simp [rF_wF, rF_wC]
    · simp [rF_wF, rF_wC]
    · simp [rF_wF, rF_wC]
    · simp [rF_wF, rF_wC]
    · simp [rF_wF, rF_wC]
    · have t0 : Int32.toNatClampNeg 0 = 0 := tn0
      have t10 : Int32.toNatClampNeg 10 = 10 := by decide
      simp only [rA_wF, rA_wC, if_true, t0, t10]
      rw [pk_cpy_in (by omega) (by omega), p5 (w0 + 2 + 1) (by omega), show 0 + (j - 0) = j by omega]
      exact b2 j hj
    · rw [← p7 f hf w hw]
      rcases w_cases w with h | h | h | h | h
      · rw [cfo_1 h, cfo_1 h]; simp only [rF_wF, rF_wC]; repeat rw [if_neg (by omega)]
      · rw [cfo_2 h, cfo_2 h]; simp only [rF_wF, rF_wC]; repeat rw [if_neg (by omega)]
      · rw [cfo_3 h, cfo_3 h]; simp only [rF_wF, rF_wC]; repeat rw [if_neg (by omega)]
      · rw [cfo_4 h, cfo_4 h]; simp only [rA_wF, rA_wC]; rw [if_neg (by omega)]
      · rw [cfo_5 h, cfo_5 h]; simp only [rF_wF, rF_wC]; repeat rw [if_neg (by omega)]
    · simp only [rF_wF, rF_wC]; repeat rw [if_neg (by omega)]
      exact p1
    · simp only [rF_wF, rF_wC]; repeat rw [if_neg (by omega)]
      exact p2
    · simp only [rF_wF, rF_wC]; repeat rw [if_neg (by omega)]
      exact p4 c u hu
    · simp only [rA_wF, rA_wC]; rw [if_neg (by omega)]
      exact p5 u hu
    · simp only [rA_wF, rA_wC]; rw [if_neg (by omega)]
      exact p3
  | succ d ih =>
    intro i k M' hi hk hp
    obtain ⟨k, rfl⟩ : ∃ q, k = q + 1 := ⟨k - 1, by omega⟩
    obtain ⟨p0, ⟨p1, p2⟩, p3, ⟨p4, p5, p6⟩, p7⟩ := hp
    have hdl : rF M' 7 (w0 + 1 + 4 + i) = 0 ∨ rF M' 7 (w0 + 1 + 4 + i) = 1 := by
      rw [p4 7 _ (by omega), f_del h (by omega)]
      exact (hz.2.1 i (by omega)).2.2.2.2.2.1
    obtain ⟨M1, g1, g2, g3, g4, g5, g6⟩ := copyF (M := M') (a := v + 1 + 4 + i) (b := w0 + 1 + 4 + i) (by omega) hdl
    rw [F_X3_copyFrom_l10, nm_k, p0, if_neg (fun q => by have := (z0_le hz.1 (by omega)).mp q; omega), if_neg (show ¬ (10 : Int32) ≤ nI i from nI_ge (b := 10) (by omega) (by decide)), gdb_t (inb_nI (by omega) (by omega)), gdb_t (inb_nI (by omega) (by omega)), nI_clamp (by omega), g1, bd_s, nm_k, nI_1]
    refine ih (i + 1) k M1 (by omega) (by omega) ⟨by rw [g2 52 v (by omega), p0], ⟨by rw [g2 2 _ (by omega), p1], by rw [g2 7 _ (by omega), p2]⟩, by rw [g4 _ (by omega), p3], ⟨fun c u hu => by rw [g2 c u (by omega), p4 c u hu], fun u hu => by rw [g4 u (by omega), p5 u hu], g6.trans p6⟩, fun f hf w hw => ?_⟩
    by_cases e : f = i
    · subst e
      rw [← fa_w h (by omega) hw]
      rcases w_cases w with h | h | h | h | h
      · rw [cfo_1 h, cfo_1 h, g3 w (by omega) (by omega), p4 _ _ (by omega)]
      · rw [cfo_2 h, cfo_2 h, g3 7 (by omega) (by omega), p4 _ _ (by omega)]
      · rw [cfo_3 h, cfo_3 h, g3 (w + 1) (by omega) (by omega), p4 _ _ (by omega)]
      · rw [cfo_4 h, cfo_4 h, g5 _ (by omega), p5 _ (by omega)]
      · rw [cfo_5 h, cfo_5 h, g3 (w - 3) (by omega) (by omega), p4 _ _ (by omega)]
    · rw [← p7 f (by omega) w hw]
      rcases w_cases w with h | h | h | h | h
      · rw [cfo_1 h, cfo_1 h, g2 _ _ (by omega)]
      · rw [cfo_2 h, cfo_2 h, g2 _ _ (by omega)]
      · rw [cfo_3 h, cfo_3 h, g2 _ _ (by omega)]
      · rw [cfo_4 h, cfo_4 h, g4 _ (by omega)]
      · rw [cfo_5 h, cfo_5 h, g2 _ _ (by omega)]
theorem copy_eq {M : MS} {v w0 : Nat} {z : Nat → Int32} (hz : ZW z) (h : CZ M w0 z) (hnb : NB M v) (hd : v + 27 ≤ w0 ∨ w0 + 27 ≤ v) : ∃ M', F_X3_copyFrom M v w0 = some M' ∧ CR M v (rA M (v + 4)) M' z := by
  have hb := hz.1.2.1
  rw [F_X3_copyFrom, nm_k, h.1.1]
  refine copy_l hz h hd (zn z) 0 FU _ (by omega) (by rw [FU_s]; omega) ⟨rF_self, ⟨?_, ?_⟩, rfl, ⟨fun c u hu => ?_, fun _ _ => rfl, rfl⟩, fun f hf => by omega⟩
  · rw [rF_wF, if_neg (by omega)]; exact hnb.1
  · rw [rF_wF, if_neg (by omega)]; exact hnb.2
  · rw [rF_wF, if_neg (by omega)]

