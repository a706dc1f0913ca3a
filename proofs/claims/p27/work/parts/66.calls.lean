/-! the class's calls, where they don't throw: what they answer, and what they leave -/
def SJ (M : MS) (z : Nat → Int32) : Prop := ∃ (m : Nat) (sv : Nat → Nat → Int32), PI z m sv 0 ∧ CI M z m sv 0 (fun _ => 0)
theorem SJ_z {M : MS} {z : Nat → Int32} (h : SJ M z) : ZW z ∧ TH z := by
  obtain ⟨m, sv, hp, _⟩ := h
  exact ⟨hp.1, hp.2.1⟩
theorem SJ_keep {M M1 : MS} {z : Nat → Int32} (h : SJ M z) (hc : CPart M M1) : SJ M1 z := by
  obtain ⟨m, sv, hp, h⟩ := h
  exact ⟨m, sv, hp, CI_keep h hp hc⟩
theorem wi_c {n l h : Nat} (h1 : l ≤ n) (hn : n ≤ h) (hh : h < 2 ^ 31) : wi (nI n) (nI l) (nI h) = true := by
  unfold wi
  rw [Bool.and_eq_true, decide_eq_true_eq, decide_eq_true_eq]
  exact ⟨nI_nlt h1 (by omega), nI_nlt hn (by omega)⟩
theorem isf_c {z : Nat → Int32} {g : Nat} (hz : Z0 z) (hg : g < zn z) : isf z (nI g) = true := by
  have hb := hz.2.1
  unfold isf
  rw [Bool.and_eq_true, decide_eq_true_eq, decide_eq_true_eq, hz.1]
  exact ⟨nI_pos (by omega), nI_ge hg (by omega)⟩
theorem q_fighter {M : MS} {z : Nat → Int32} {g n : Nat} (h : SJ M z) (hg : g < zn z) (hn : n ≤ 13) : F_X4_fighter M (nI g) (nI n) = some (0, ztold z g n, M) := by
  obtain ⟨m, sv, hp, h⟩ := h
  obtain ⟨hz, ht, _⟩ := id hp
  rw [F_X4_fighter, rqF1 h.1 (isf_c hz.1 hg), isW_t (lo := 0) (hi := 13) (wi_c (l := 0) (h := 13) (Nat.zero_le _) hn (by decide)), bd_s, rqA1, prop_l h.1 hz hg hn, bd_s]
theorem q_readied {M : MS} {z : Nat → Int32} {g n : Nat} (h : SJ M z) (hg : g < zn z) (hn : n ≤ 3) : F_X4_readied M (nI g) (nI n) = some (0, zo z g (7 + n), M) := by
  obtain ⟨m, sv, hp, h⟩ := h
  obtain ⟨hz, ht, _⟩ := id hp
  rw [F_X4_readied, rqF1 h.1 (isf_c hz.1 hg), isW_t (lo := 0) (hi := 3) (wi_c (l := 0) (h := 3) (Nat.zero_le _) hn (by decide)), bd_s, rqA1, at_l hz.1 h.1 hg, bd_s, ofr_l h.1 hg hn, bd_s]
theorem q_inRow {M : MS} {z : Nat → Int32} {i : Nat} (h : SJ M z) (hi : i < 2 ^ 31) : F_X4_inRow M (nI i) = some (0, if i < zn z then z (6 + i) else -1, M) := by
  obtain ⟨m, sv, hp, h⟩ := h
  obtain ⟨hz, ht, _⟩ := id hp
  have hb10 := hz.1.2.1
  rw [F_X4_inRow, nm_k, if_neg (nI_pos hi)]
  try dsimp only
  rw [rqA1]
  by_cases q : i < zn z
  · rw [if_pos q, nat_l hz.1 h.1 q, bd_s]
  · rw [if_neg q, nat_no h.1 (by rw [hz.1.1]; exact nI_le (by omega) hi), bd_s]
theorem q_count {M : MS} {z : Nat → Int32} {n : Nat} (h : SJ M z) (hn : n ≤ 11) : F_X4_count M (nI n) = some (0, zcount z 0 n, M) := by
  obtain ⟨m, sv, hp, h⟩ := h
  obtain ⟨hz, ht, _⟩ := id hp
  rw [F_X4_count, isW_t (lo := 0) (hi := 12) (wi_c (n := n) (l := 0) (h := 12) (Nat.zero_le _) (by omega) (by decide)), bd_s, rqA1, ccount_l h.1 hz (by omega), bd_s, h.2.1]
  have e : zcount z (nI m) n = zcount z 0 n := by
    unfold zcount
    by_cases c1 : n < 3
    · rw [if_pos c1, if_pos c1]
    by_cases c2 : n = 3
    · rw [if_neg c1, if_pos c2, if_neg c1, if_pos c2]
    by_cases c3 : n = 4
    · simp [c3]
    by_cases c4 : n = 5
    · simp [c4]
    by_cases c5 : n = 6
    · simp [c5]
    by_cases c6 : n < 10
    · simp [c1, c2, c3, c4, c5, c6]
    by_cases c7 : n = 10
    · simp [c7]
    have c8 : n = 11 := by omega
    simp [c8]
  rw [e]
theorem q_standing {M : MS} {z : Nat → Int32} (h : SJ M z) : F_X4_standing M = some (zshare z) := by
  obtain ⟨m, sv, hp, h⟩ := h
  exact cshare_l h.1 hp.1
theorem xok_k {z : Nat → Int32} {kd x : Int32} (h : xok z kd x) (hz : Z0 z) (hk : k4 kd) : (if kd = 1 then wi x 0 9 else isf z x) = true := by
  rcases h with ⟨e, q, hq, e2⟩ | ⟨e, g, hg, e2⟩
  · rw [if_pos e, e2]; exact wi_c (l := 0) (h := 9) (Nat.zero_le _) hq (by decide)
  · rw [if_neg e, e2]; exact isf_c hz hg
theorem k4_wi {kd : Int32} (hk : k4 kd) : wi kd 0 3 = true := by
  rcases hk with h | h | h | h <;> rw [h] <;> decide
theorem q_ifDone {M : MS} {z : Nat → Int32} {kd x : Int32} (h : SJ M z) (hx : xok z kd x) (hk : k4 kd) : ∃ M1, F_X4_ifDone M kd x 0 = some (0, (if zcx z kd x = true then 1 else 0), M1) ∧ SJ M1 z ∧ MPart M M1 := by
  obtain ⟨m, sv, hp, h⟩ := h
  obtain ⟨hz, ht, _⟩ := id hp
  have key : ∃ M1, F_X4_ifDone M kd x 0 = some (0, zwd z kd x 0, M1) ∧ CI M1 z m sv 0 (fun _ => 0) ∧ MPart M M1 := by
    rw [F_X4_ifDone, cd_1, if_pos (by rw [k4_wi hk]; decide)]
    try dsimp only
    rw [rqA1, cd_2 h.1, if_pos (xok_k hx hz.1 hk)]
    try dsimp only
    rw [rqA1]
    exact cdone_l (w := 0) h hp hx hk (by decide)
  obtain ⟨M1, a, b, c⟩ := key
  have e : zwd z kd x 0 = if zcx z kd x = true then 1 else 0 := by
    unfold zwd zcx ztn
    by_cases c1 : z 2 = -1
    · simp [c1]
    · by_cases c2 : zpos z (z 2).toNatClampNeg kd x = true
      · simp [c1, c2]
      · simp [c1, c2]
  exact ⟨M1, by rw [a, e], ⟨m, sv, hp, b⟩, c⟩
theorem q_strike {M : MS} {z : Nat → Int32} {g : Nat} (h : SJ M z) (hg : g < zn z) (hq : zcx z 0 (nI g) = true) : ∃ M1, F_X4_strike M (nI g) = some (0, zdR z 0 (nI g) 0 0, M1) ∧ SJ M1 (zdA z 0 (nI g) 0 0) ∧ MPart M M1 := by
  obtain ⟨m, sv, hp, h⟩ := h
  obtain ⟨hz, ht, _⟩ := id hp
  have hx : xok z 0 (nI g) := Or.inr ⟨by decide, g, hg, rfl⟩
  have key : ∃ M2, F_X4_strike M (nI g) = some (0, zdR z 0 (nI g) 0 0, M2) ∧ CI M2 (zdA z 0 (nI g) 0 0) (svM m) (svS sv m z) 0 (fun _ => 0) ∧ MPart M M2 := by
    rw [F_X4_strike, rqF1 h.1 (isf_c hz.1 hg), ccx_l h.1 hz ht hx (Or.inl rfl), bd_s, if_pos hq, rqS1]
    exact csv h hp (kact hz ht hx (Or.inl rfl) (by decide) (by decide) (fun q => absurd q (by decide)) hq)
  obtain ⟨M1, a, b, c⟩ := key
  exact ⟨M1, a, ⟨_, _, PI_act (c := 0) (r := 0) hp hx (by decide) (by decide) hq, b⟩, c⟩
theorem q_help {M : MS} {z : Nat → Int32} {g : Nat} (h : SJ M z) (hg : g < zn z) (hq : zcx z 2 (nI g) = true) : ∃ M1, F_X4_help M (nI g) = some (0, zdR z 2 (nI g) 0 0, M1) ∧ SJ M1 (zdA z 2 (nI g) 0 0) ∧ MPart M M1 := by
  obtain ⟨m, sv, hp, h⟩ := h
  obtain ⟨hz, ht, _⟩ := id hp
  have hx : xok z 2 (nI g) := Or.inr ⟨by decide, g, hg, rfl⟩
  have key : ∃ M2, F_X4_help M (nI g) = some (0, zdR z 2 (nI g) 0 0, M2) ∧ CI M2 (zdA z 2 (nI g) 0 0) (svM m) (svS sv m z) 0 (fun _ => 0) ∧ MPart M M2 := by
    rw [F_X4_help, rqF1 h.1 (isf_c hz.1 hg), ccx_l h.1 hz ht hx (Or.inr (Or.inr (Or.inl rfl))), bd_s, if_pos hq, rqS1]
    exact csv h hp (kact hz ht hx (Or.inr (Or.inr (Or.inl rfl))) (by decide) (by decide) (fun q => absurd q (by decide)) hq)
  obtain ⟨M1, a, b, c⟩ := key
  exact ⟨M1, a, ⟨_, _, PI_act (c := 0) (r := 0) hp hx (by decide) (by decide) hq, b⟩, c⟩
theorem q_step {M : MS} {z : Nat → Int32} {g : Nat} (h : SJ M z) (hg : g ≤ 9) (hq : zcx z 1 (nI g) = true) : ∃ M1, F_X4_step M (nI g) = some (0, zdR z 1 (nI g) 0 0, M1) ∧ SJ M1 (zdA z 1 (nI g) 0 0) ∧ MPart M M1 := by
  obtain ⟨m, sv, hp, h⟩ := h
  obtain ⟨hz, ht, _⟩ := id hp
  have hx : xok z 1 (nI g) := Or.inl ⟨rfl, g, hg, rfl⟩
  have key : ∃ M2, F_X4_step M (nI g) = some (0, zdR z 1 (nI g) 0 0, M2) ∧ CI M2 (zdA z 1 (nI g) 0 0) (svM m) (svS sv m z) 0 (fun _ => 0) ∧ MPart M M2 := by
    rw [F_X4_step, isW_t (lo := 0) (hi := 9) (wi_c (l := 0) (h := 9) (Nat.zero_le _) hg (by decide)), bd_s, rqA1, ccx_l h.1 hz ht hx (Or.inr (Or.inl rfl)), bd_s, if_pos hq, rqS1]
    exact csv h hp (kact hz ht hx (Or.inr (Or.inl rfl)) (by decide) (by decide) (fun q => absurd q (by decide)) hq)
  obtain ⟨M1, a, b, c⟩ := key
  exact ⟨M1, a, ⟨_, _, PI_act (c := 0) (r := 0) hp hx (by decide) (by decide) hq, b⟩, c⟩
theorem q_curse {M : MS} {z : Nat → Int32} {g c r : Nat} (h : SJ M z) (hg : g < zn z) (hc : c < 4) (hr1 : 1 ≤ r) (hr : r ≤ 5) (hq : zcx z 3 (nI g) = true) : ∃ M1, F_X4_curse M (nI g) (nI c) (nI r) = some (0, zdR z 3 (nI g) c r, M1) ∧ SJ M1 (zdA z 3 (nI g) c r) ∧ MPart M M1 := by
  obtain ⟨m, sv, hp, h⟩ := h
  obtain ⟨hz, ht, _⟩ := id hp
  have hx : xok z 3 (nI g) := Or.inr ⟨by decide, g, hg, rfl⟩
  have key : ∃ M2, F_X4_curse M (nI g) (nI c) (nI r) = some (0, zdR z 3 (nI g) c r, M2) ∧ CI M2 (zdA z 3 (nI g) c r) (svM m) (svS sv m z) 0 (fun _ => 0) ∧ MPart M M2 := by
    rw [F_X4_curse, rqF1 h.1 (isf_c hz.1 hg), isW_t (lo := 0) (hi := 3) (wi_c (n := c) (l := 0) (h := 3) (Nat.zero_le _) (by omega) (by decide)), bd_s, nm_k, if_neg (by decide), isW_t (lo := 1) (hi := 5) (wi_c (l := 1) (h := 5) hr1 hr (by decide)), bd_s, if_neg (by decide)]
    try dsimp only
    rw [rqA1, ccx_l h.1 hz ht hx (Or.inr (Or.inr (Or.inr rfl))), bd_s, if_pos hq, rqS1]
    exact csv h hp (kact (c := c) (r := r) hz ht hx (Or.inr (Or.inr (Or.inr rfl))) hc hr (fun _ => ⟨rfl, rfl⟩) hq)
  obtain ⟨M1, a, b, d⟩ := key
  exact ⟨M1, a, ⟨_, _, PI_act (c := c) (r := r) hp hx hc hr hq, b⟩, d⟩
theorem q_delay {M : MS} {z : Nat → Int32} (h : SJ M z) (h2 : ¬ z 2 = -1) : ∃ M1, F_X4_delay M = some (0, zde z 2, M1) ∧ SJ M1 (zde z) ∧ MPart M M1 := by
  obtain ⟨m, sv, hp, h⟩ := h
  obtain ⟨hz, ht, _⟩ := id hp
  obtain ⟨w1, w2, _⟩ := zde_ok hz ht h2
  have key : ∃ M2, F_X4_delay M = some (0, zde z 2, M2) ∧ CI M2 (zde z) (svM m) (svS sv m z) 0 (fun _ => 0) ∧ MPart M M2 := by
    rw [F_X4_delay, h.1.1.2.2.1, nm_k, if_neg h2]
    try dsimp only
    rw [rqS1]
    refine csv h hp (fun M1 R hcr => ?_)
    obtain ⟨M2, k1, k2⟩ := cde_l hcr hz ht h2
    exact ⟨M2, R, by rw [k1, bd_s, cz_t k2], k2⟩
  obtain ⟨M1, a, b, c⟩ := key
  exact ⟨M1, a, ⟨_, _, PI_new hp w1 w2, b⟩, c⟩
theorem q_end {M : MS} {z : Nat → Int32} (h : SJ M z) (h2 : ¬ z 2 = -1) : ∃ M1, F_X4_end M = some (0, zen z 2, M1) ∧ SJ M1 (zen z) ∧ MPart M M1 := by
  obtain ⟨m, sv, hp, h⟩ := h
  obtain ⟨hz, ht, _⟩ := id hp
  obtain ⟨w1, w2, _⟩ := zen_ok hz ht h2
  have key : ∃ M2, F_X4_end M = some (0, zen z 2, M2) ∧ CI M2 (zen z) (svM m) (svS sv m z) 0 (fun _ => 0) ∧ MPart M M2 := by
    rw [F_X4_end, h.1.1.2.2.1, nm_k, if_neg h2]
    try dsimp only
    rw [rqS1]
    refine csv h hp (fun M1 R hcr => ?_)
    obtain ⟨M2, k1, k2⟩ := cen_l hcr hz ht h2
    exact ⟨M2, R, by rw [k1, bd_s, cz_t k2], k2⟩
  obtain ⟨M1, a, b, c⟩ := key
  exact ⟨M1, a, ⟨_, _, PI_new hp w1 w2, b⟩, c⟩
theorem q_comeIn {M : MS} {z : Nat → Int32} {g : Nat} (h : SJ M z) (hg : g < zn z) (hq : zci z g = true) : ∃ M1, F_X4_comeIn M (nI g) = some (0, zo (zli z g) g 1, M1) ∧ SJ M1 (zli z g) ∧ MPart M M1 := by
  obtain ⟨m, sv, hp, h⟩ := h
  obtain ⟨hz, ht, _⟩ := id hp
  obtain ⟨w1, w2, _⟩ := zli_ok hz ht hg hq
  have key : ∃ M2, F_X4_comeIn M (nI g) = some (0, zo (zli z g) g 1, M2) ∧ CI M2 (zli z g) (svM m) (svS sv m z) 0 (fun _ => 0) ∧ MPart M M2 := by
    rw [F_X4_comeIn, rqF1 h.1 (isf_c hz.1 hg), cci_l h.1 hz hg, bd_s, if_pos hq, rqS1]
    refine csv h hp (fun M1 R hcr => ?_)
    obtain ⟨M2, k1, k2⟩ := cli_l hcr hz ht hg hq
    exact ⟨M2, R, by rw [k1, bd2_s], k2⟩
  obtain ⟨M1, a, b, c⟩ := key
  exact ⟨M1, a, ⟨_, _, PI_new hp w1 w2, b⟩, c⟩
theorem q_ready {M : MS} {z : Nat → Int32} {k g w c : Int32} (h : SJ M z) (hg : isf z g = true) (hw : w = -1 ∨ isf z w = true) (hk : k = 0 ∨ k = 2) (hc : wi c 0 3 = true) (s1 : ¬ z 2 = -1) (s2 : ¬ g = z 2) (s3 : ¬ w = z 2) : ∃ M1, F_X4_ready M k g w c = some (0, zready z (ztn z) k g w c 2, M1) ∧ SJ M1 (zready z (ztn z) k g w c) ∧ MPart M M1 := by
  obtain ⟨m, sv, hp, h⟩ := h
  obtain ⟨hz, ht, _⟩ := id hp
  obtain ⟨d1, d2, d3, d4, d5⟩ := TH_t hz ht s1
  obtain ⟨cn, _, hcn, ec⟩ := wi_n (l := 0) (h := 3) hc (by decide) (by decide)
  have h4 : ZW (zl4 z (ztn z) k g w c) := ZW_l4 hz d1 hk (isf_n hz.1 hg) (hw.elim Or.inl (fun q => Or.inr (isf_n hz.1 q))) ⟨cn, hcn, ec⟩
  obtain ⟨w1, w2, w3⟩ := ready_ok hz d1 h4
  have hrk : rk k c = true := by unfold rk; rw [Bool.and_eq_true, decide_eq_true_eq]; exact ⟨hk, hc⟩
  have hrs : rs (z 2) g w = true := by unfold rs; rw [Bool.and_eq_true, Bool.and_eq_true, decide_eq_true_eq, decide_eq_true_eq, decide_eq_true_eq]; exact ⟨s1, s2, s3⟩
  have key : ∃ M2, F_X4_ready M k g w c = some (0, zready z (ztn z) k g w c 2, M2) ∧ CI M2 (zready z (ztn z) k g w c) (svM m) (svS sv m z) 0 (fun _ => 0) ∧ MPart M M2 := by
    rw [F_X4_ready, rqF1 h.1 hg, rdy_w h.1 hw]
    try dsimp only
    rw [rdy_k, if_pos hrk]
    try dsimp only
    rw [rqA1, rdy_s, h.1.1.2.2.1, if_pos hrs]
    try dsimp only
    rw [rqS1]
    refine csv h hp (fun M1 R hcr => ?_)
    obtain ⟨M2, q1, q2⟩ := cready_l (a := k) (b := g) (c := w) (d := c) hcr hz d1 d2 h4
    exact ⟨M2, R, by rw [q1, bd_s, cz_t q2], q2⟩
  obtain ⟨M1, a, b, c⟩ := key
  exact ⟨M1, a, ⟨_, _, PI_new hp w1 w2, b⟩, c⟩
theorem q_come {M : MS} {z : Nat → Int32} {s i l f : Nat} (h : SJ M z) (h10 : zn z < 10) (hs : s ≤ 1) (hi : i ≤ 40) (hl1 : 1 ≤ l) (hl : l ≤ 99) (hf1 : 1 ≤ f) (hf : f ≤ 20) : ∃ M1, F_X4_come M (nI s) (nI i) (nI l) (nI f) = some (0, nI (zn z), M1) ∧ SJ M1 (zcome z (nI s) (nI i) (nI l) (nI f)) ∧ MPart M M1 := by
  obtain ⟨m, sv, hp, h⟩ := h
  obtain ⟨hz, ht, _⟩ := id hp
  have hg : gcome (nI s) (nI i) (nI l) (nI f) = true := by
    unfold gcome
    rw [Bool.and_eq_true, Bool.and_eq_true, Bool.and_eq_true]
    exact ⟨wi_c (l := 0) (h := 1) (Nat.zero_le _) hs (by decide), wi_c (l := 0) (h := 40) (Nat.zero_le _) hi (by decide), wi_c (l := 1) (h := 99) hl1 hl (by decide), wi_c (l := 1) (h := 20) hf1 hf (by decide)⟩
  have hs2 : nI s = 0 ∨ nI s = 1 := by
    rcases (show s = 0 ∨ s = 1 by omega) with q | q
    · exact Or.inl (by rw [q]; rfl)
    · exact Or.inr (by rw [q]; rfl)
  obtain ⟨w1, w2⟩ := zcome_ok (i := nI i) hz ht h10 hs2 ⟨hl, rfl⟩ ⟨hf, rfl⟩
  have key : ∃ M2, F_X4_come M (nI s) (nI i) (nI l) (nI f) = some (0, nI (zn z), M2) ∧ CI M2 (zcome z (nI s) (nI i) (nI l) (nI f)) (svM m) (svS sv m z) 0 (fun _ => 0) ∧ MPart M M2 := by
    rw [F_X4_come, ch_c, if_pos hg]
    try dsimp only
    rw [rqA1, h.1.1.1, hz.1.1, nm_k, if_neg (show ¬ (10 : Int32) ≤ nI (zn z) from nI_ge (b := 10) h10 (by decide))]
    try dsimp only
    rw [rqS1]
    refine csv h hp (fun M1 R hcr => ?_)
    obtain ⟨M2, k1, k2⟩ := center_l (s := nI s) (i := nI i) (l := nI l) (fo := nI f) hcr hz h10 w1.1
    exact ⟨M2, R, by rw [k1, bd2_s], k2⟩
  obtain ⟨M1, a, b, c⟩ := key
  exact ⟨M1, a, ⟨_, _, PI_new hp w1 w2, b⟩, c⟩
theorem q_begin0 {M : MS} {z : Nat → Int32} {m : Nat} {sv : Nat → Nat → Int32} (hp : PI z m sv 0) (h : CI M z m sv 0 (fun _ => 0)) : ∃ M1, F_X4_begin M = some (zbegin z 2, M1) ∧ (PI (zbegin z) (svM m) (svS sv m z) 0 ∧ CI M1 (zbegin z) (svM m) (svS sv m z) 0 (fun _ => 0)) ∧ MPart M M1 := by
  obtain ⟨hz, ht, _⟩ := id hp
  obtain ⟨w1, w2, _⟩ := zbegin_ok hz
  obtain ⟨M1, g1, g2, g3, g4⟩ := csave_eq h hp
  have hp1 := PI_save hp
  obtain ⟨M2, k1, k2⟩ := cbegin_eq (CR_of g2 hp1) hz
  exact ⟨M2, by rw [F_X4_begin, g1, bd_s, k1, bd_s, cz_t k2], ⟨PI_new hp w1 w2, CI_now g2 hp1 k2⟩, MPart_trans g3 (MPart_CFR k2.2.2.1 (by decide))⟩
theorem q_begin {M : MS} {z : Nat → Int32} (h : SJ M z) : ∃ M1, F_X4_begin M = some (zbegin z 2, M1) ∧ SJ M1 (zbegin z) ∧ MPart M M1 := by
  obtain ⟨m, sv, hp, h⟩ := h
  obtain ⟨M1, a, b, c⟩ := q_begin0 hp h
  exact ⟨M1, a, ⟨_, _, b⟩, c⟩
theorem q_undo {M : MS} {z : Nat → Int32} {m : Nat} {sv : Nat → Nat → Int32} (hp : PI z (m + 1) sv 0) (h : CI M z (m + 1) sv 0 (fun _ => 0)) : ∃ M1, F_X4_undo M = some (0, nI m, M1) ∧ (PI (sv m) m sv 0 ∧ CI M1 (sv m) m sv 0 (fun _ => 0)) ∧ MPart M M1 := by
  obtain ⟨hz, ht, hm6, hsv, h60⟩ := id hp
  obtain ⟨v1, v2⟩ := hsv m (by omega)
  obtain ⟨M', g1, g2, g3, g4⟩ := cundo_eq h hp
  have e1 : ¬ rF M 67 216 ≤ 0 := by rw [h.2.1]; exact nI_ge (a := 0) (by omega) (by omega)
  have e2 : ¬ (6 : Int32) < rF M 67 216 := by rw [h.2.1]; exact nI_nlt (a := 6) (by omega) (by decide)
  have key : ∃ M2, F_X4_undo M = some (0, nI m, M2) ∧ CI M2 (sv m) m sv 0 (fun _ => 0) ∧ MPart M M2 := by
    rw [F_X4_undo, nm_k, if_neg e1, if_neg e2]
    try dsimp only
    rw [rqS1]
    exact ⟨M', g1, g2, g3⟩
  obtain ⟨M1, a, b, c⟩ := key
  exact ⟨M1, a, ⟨⟨v1, v2, by omega, fun i hi => hsv i (by omega), h60⟩, b⟩, c⟩
