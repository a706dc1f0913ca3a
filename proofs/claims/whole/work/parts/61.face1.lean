/-! the calls that act -/
theorem kact {z : Nat → Int32} {kd x a3 a4 : Int32} {c r : Nat} (hz : ZW z) (ht : TH z) (hx : xok z kd x) (hk : k4 kd) (hc : c < 4) (hr : r ≤ 5) (h3 : kd = 3 → a3 = nI c ∧ a4 = nI r) (hp : zcx z kd x = true) (M1 : MS) (R : Nat → Int32) (h : CR M1 0 R M1 z) : ∃ M2 R', (bd2 (F_X3_act M1 0 kd x a3 a4) fun r13 M12 => (some ((0 : Nat), r13, M12))) = some (0, zdR z kd x c r, M2) ∧ CR M1 0 R' M2 (zdA z kd x c r) := by
  obtain ⟨M2, R', k1, k2⟩ := cdx_l (c := c) (r := r) h hz ht hx hk hc hr h3 hp
  exact ⟨M2, R', by rw [k1, bd2_s], k2⟩
theorem mkact {z : Nat → Int32} {kd x a3 a4 : Int32} {c r : Nat} (hz : ZW z) (ht : TH z) (hx : xok z kd x) (hc : c < 4) (hr : r ≤ 5) (h3 : a3 = nI c) (h4 : a4 = nI r) (hp : zcx z kd x = true) (M1 : MS) (hm : rA M1 221 = z) : ∃ M2, (bd2 (F_X5_act M1 kd x a3 a4) fun r9 M8 => (some (r9, M8))) = some (zdR z kd x c r, M2) ∧ FQ M1 M2 ∧ rA M2 221 = zdA z kd x c r := by
  obtain ⟨M2, k1, k2, k3⟩ := mdx_eq (c := c) (r := r) hm hz ht hx hc hr h3 h4 hp
  exact ⟨M2, by rw [k1, bd2_s], k2, k3⟩
theorem PI_act {z : Nat → Int32} {m t : Nat} {sv : Nat → Nat → Int32} {kd x : Int32} {c r : Nat} (h : PI z m sv t) (hx : xok z kd x) (hc : c < 4) (hr : r ≤ 5) (hp : zcx z kd x = true) : PI (zdA z kd x c r) (svM m) (svS sv m z) t := by
  obtain ⟨a, b, _⟩ := zdA_ok (c := c) (r := r) h.1 h.2.1 hx hc hr hp
  exact PI_new h a b
theorem s_strike (a : Int32) : SOK (fun M => F_X4_strike M a) [(3, (1 : Int32)), (2, (2 : Int32))] (fun M => F_X5_strike M a) := by
  refine sok_of (fun z m sv t b hp hb => ?_)
  obtain ⟨hz, ht, _⟩ := id hp
  by_cases hf : isf z a = true
  · obtain ⟨g, hg, e⟩ := isf_n hz.1 hf
    have hx : xok z 0 a := Or.inr ⟨by decide, g, hg, e⟩
    by_cases hq : zcx z 0 a = true
    · refine go_ok (r := zdR z 0 a 0 0) (fun M h => ?_) (fun M h => ?_) (PI_act (c := 0) (r := 0) hp hx (by decide) (by decide) hq) hb
      · try dsimp only
        rw [F_X4_strike, rqF1 h.1 hf, ccx_l h.1 hz ht hx (Or.inl rfl), bd_s, if_pos hq, rqS1]
        exact csv h hp (kact hz ht hx (Or.inl rfl) (by decide) (by decide) (fun q => absurd q (by decide)) hq)
      · try dsimp only
        rw [F_X5_strike, F_X5_whyNotAct, mF_t h.1 hz.1 hf, bd_s, if_pos (by decide), mcx_eq h.1 hz ht hx, bd_s, if_pos hq, if_neg (by decide), bd_s]
        try dsimp only
        rw [nm_k, th_0]
        exact msv h hp (mkact hz ht hx (by decide) (by decide) rfl rfl hq)
    · refine go_thr 2 2 hp hb (fun M h => ?_) (fun M h => ?_) (by decide) (by decide) (by decide)
      · try dsimp only
        rw [F_X4_strike, rqF1 h.1 hf, ccx_l h.1 hz ht hx (Or.inl rfl), bd_s, if_neg hq, rqS0]
      · try dsimp only
        rw [F_X5_strike, F_X5_whyNotAct, mF_t h.1 hz.1 hf, bd_s, if_pos (by decide), mcx_eq h.1 hz ht hx, bd_s, if_neg hq, if_pos rfl, bd_s]
        try dsimp only
        rw [nm_k, th_2]
  · refine go_thr 3 1 hp hb (fun M h => ?_) (fun M h => ?_) (by decide) (by decide) (by decide)
    · try dsimp only
      rw [F_X4_strike, rqF0 h.1 hf]
    · try dsimp only
      rw [F_X5_strike, F_X5_whyNotAct, mF_f h.1 hf, bd_s, if_neg (by decide), bd_s]
      try dsimp only
      rw [nm_k, th_1]
theorem s_help (a : Int32) : SOK (fun M => F_X4_help M a) [(3, (1 : Int32)), (2, (2 : Int32))] (fun M => F_X5_help M a) := by
  refine sok_of (fun z m sv t b hp hb => ?_)
  obtain ⟨hz, ht, _⟩ := id hp
  by_cases hf : isf z a = true
  · obtain ⟨g, hg, e⟩ := isf_n hz.1 hf
    have hx : xok z 2 a := Or.inr ⟨by decide, g, hg, e⟩
    by_cases hq : zcx z 2 a = true
    · refine go_ok (r := zdR z 2 a 0 0) (fun M h => ?_) (fun M h => ?_) (PI_act (c := 0) (r := 0) hp hx (by decide) (by decide) hq) hb
      · try dsimp only
        rw [F_X4_help, rqF1 h.1 hf, ccx_l h.1 hz ht hx (Or.inr (Or.inr (Or.inl rfl))), bd_s, if_pos hq, rqS1]
        exact csv h hp (kact hz ht hx (Or.inr (Or.inr (Or.inl rfl))) (by decide) (by decide) (fun q => absurd q (by decide)) hq)
      · try dsimp only
        rw [F_X5_help, F_X5_whyNotAct, mF_t h.1 hz.1 hf, bd_s, if_pos (by decide), mcx_eq h.1 hz ht hx, bd_s, if_pos hq, if_neg (by decide), bd_s]
        try dsimp only
        rw [nm_k, th_0]
        exact msv h hp (mkact hz ht hx (by decide) (by decide) rfl rfl hq)
    · refine go_thr 2 2 hp hb (fun M h => ?_) (fun M h => ?_) (by decide) (by decide) (by decide)
      · try dsimp only
        rw [F_X4_help, rqF1 h.1 hf, ccx_l h.1 hz ht hx (Or.inr (Or.inr (Or.inl rfl))), bd_s, if_neg hq, rqS0]
      · try dsimp only
        rw [F_X5_help, F_X5_whyNotAct, mF_t h.1 hz.1 hf, bd_s, if_pos (by decide), mcx_eq h.1 hz ht hx, bd_s, if_neg hq, if_pos rfl, bd_s]
        try dsimp only
        rw [nm_k, th_2]
  · refine go_thr 3 1 hp hb (fun M h => ?_) (fun M h => ?_) (by decide) (by decide) (by decide)
    · try dsimp only
      rw [F_X4_help, rqF0 h.1 hf]
    · try dsimp only
      rw [F_X5_help, F_X5_whyNotAct, mF_f h.1 hf, bd_s, if_neg (by decide), bd_s]
      try dsimp only
      rw [nm_k, th_1]
theorem s_step (a : Int32) : SOK (fun M => F_X4_step M a) [(1, (1 : Int32)), (2, (2 : Int32))] (fun M => F_X5_step M a) := by
  refine sok_of (fun z m sv t b hp hb => ?_)
  obtain ⟨hz, ht, _⟩ := id hp
  by_cases hw : wi a 0 9 = true
  · obtain ⟨g, _, hg, e⟩ := wi_n (l := 0) (h := 9) hw (by decide) (by decide)
    have hx : xok z 1 a := Or.inl ⟨rfl, g, hg, e⟩
    by_cases hq : zcx z 1 a = true
    · refine go_ok (r := zdR z 1 a 0 0) (fun M h => ?_) (fun M h => ?_) (PI_act (c := 0) (r := 0) hp hx (by decide) (by decide) hq) hb
      · try dsimp only
        rw [F_X4_step, isW_t hw, bd_s, rqA1, ccx_l h.1 hz ht hx (Or.inr (Or.inl rfl)), bd_s, if_pos hq, rqS1]
        exact csv h hp (kact hz ht hx (Or.inr (Or.inl rfl)) (by decide) (by decide) (fun q => absurd q (by decide)) hq)
      · try dsimp only
        rw [F_X5_step, in_t hw, bd_s, nm_k, if_pos (by decide), mcx_eq h.1 hz ht hx, bd_s, if_pos hq, if_neg (by decide)]
        try dsimp only
        rw [nm_k, th_0]
        exact msv h hp (mkact hz ht hx (by decide) (by decide) rfl rfl hq)
    · refine go_thr 2 2 hp hb (fun M h => ?_) (fun M h => ?_) (by decide) (by decide) (by decide)
      · try dsimp only
        rw [F_X4_step, isW_t hw, bd_s, rqA1, ccx_l h.1 hz ht hx (Or.inr (Or.inl rfl)), bd_s, if_neg hq, rqS0]
      · try dsimp only
        rw [F_X5_step, in_t hw, bd_s, nm_k, if_pos (by decide), mcx_eq h.1 hz ht hx, bd_s, if_neg hq, if_pos rfl]
        try dsimp only
        rw [nm_k, th_2]
  · refine go_thr 1 1 hp hb (fun M h => ?_) (fun M h => ?_) (by decide) (by decide) (by decide)
    · try dsimp only
      rw [F_X4_step, isW_f hw, bd_s, rqA0]
    · try dsimp only
      rw [F_X5_step, in_f hw, bd_s, nm_k, if_neg (by decide)]
      try dsimp only
      rw [nm_k, th_1]
theorem s_curse (a c r : Int32) : SOK (fun M => F_X4_curse M a c r) [(3, (1 : Int32)), (1, (2 : Int32)), (2, (3 : Int32))] (fun M => F_X5_curse M a c r) := by
  refine sok_of (fun z m sv t b hp hb => ?_)
  obtain ⟨hz, ht, _⟩ := id hp
  by_cases hf : isf z a = true
  · obtain ⟨g, hg, e⟩ := isf_n hz.1 hf
    have hx : xok z 3 a := Or.inr ⟨by decide, g, hg, e⟩
    by_cases h1 : wi c 0 3 = true
    · by_cases h2 : wi r 1 5 = true
      · obtain ⟨cn, _, hcn, ec⟩ := wi_n (l := 0) (h := 3) h1 (by decide) (by decide)
        obtain ⟨rn, _, hrn, er⟩ := wi_n (l := 1) (h := 5) h2 (by decide) (by decide)
        by_cases hq : zcx z 3 a = true
        · refine go_ok (r := zdR z 3 a cn rn) (fun M h => ?_) (fun M h => ?_) (PI_act (c := cn) (r := rn) hp hx (by omega) hrn hq) hb
          · try dsimp only
            rw [F_X4_curse, rqF1 h.1 hf, isW_t h1, bd_s, nm_k, if_neg (by decide), isW_t h2, bd_s, if_neg (by decide)]
            try dsimp only
            rw [rqA1, ccx_l h.1 hz ht hx (Or.inr (Or.inr (Or.inr rfl))), bd_s, if_pos hq, rqS1]
            exact csv h hp (kact (c := cn) (r := rn) hz ht hx (Or.inr (Or.inr (Or.inr rfl))) (by omega) hrn (fun _ => ⟨ec, er⟩) hq)
          · try dsimp only
            rw [F_X5_curse, mF_t h.1 hz.1 hf, bd_s, nm_k, if_pos (by decide), F_X5_isCurse, in_t h1, bd_s, if_neg (by decide), in_t h2, bd_s, if_neg (by decide), bd_s, if_pos (by decide), mcx_eq h.1 hz ht hx, bd_s, if_pos hq, if_neg (by decide)]
            try dsimp only
            rw [nm_k, th_0]
            exact msv h hp (mkact (c := cn) (r := rn) hz ht hx (by omega) hrn ec er hq)
        · refine go_thr 2 3 hp hb (fun M h => ?_) (fun M h => ?_) (by decide) (by decide) (by decide)
          · try dsimp only
            rw [F_X4_curse, rqF1 h.1 hf, isW_t h1, bd_s, nm_k, if_neg (by decide), isW_t h2, bd_s, if_neg (by decide)]
            try dsimp only
            rw [rqA1, ccx_l h.1 hz ht hx (Or.inr (Or.inr (Or.inr rfl))), bd_s, if_neg hq, rqS0]
          · try dsimp only
            rw [F_X5_curse, mF_t h.1 hz.1 hf, bd_s, nm_k, if_pos (by decide), F_X5_isCurse, in_t h1, bd_s, if_neg (by decide), in_t h2, bd_s, if_neg (by decide), bd_s, if_pos (by decide), mcx_eq h.1 hz ht hx, bd_s, if_neg hq, if_pos rfl]
            try dsimp only
            rw [nm_k, th_3]
      · refine go_thr 1 2 hp hb (fun M h => ?_) (fun M h => ?_) (by decide) (by decide) (by decide)
        · try dsimp only
          rw [F_X4_curse, rqF1 h.1 hf, isW_t h1, bd_s, nm_k, if_neg (by decide), isW_f h2, bd_s, if_pos rfl]
          try dsimp only
          rw [rqA0]
        · try dsimp only
          rw [F_X5_curse, mF_t h.1 hz.1 hf, bd_s, nm_k, if_pos (by decide), F_X5_isCurse, in_t h1, bd_s, if_neg (by decide), in_f h2, bd_s, if_pos rfl, bd_s, if_neg (by decide)]
          try dsimp only
          rw [nm_k, th_2]
    · refine go_thr 1 2 hp hb (fun M h => ?_) (fun M h => ?_) (by decide) (by decide) (by decide)
      · try dsimp only
        rw [F_X4_curse, rqF1 h.1 hf, isW_f h1, bd_s, nm_k, if_pos rfl]
        try dsimp only
        rw [rqA0]
      · try dsimp only
        rw [F_X5_curse, mF_t h.1 hz.1 hf, bd_s, nm_k, if_pos (by decide), F_X5_isCurse, in_f h1, bd_s, if_pos rfl, bd_s, if_neg (by decide)]
        try dsimp only
        rw [nm_k, th_2]
  · refine go_thr 3 1 hp hb (fun M h => ?_) (fun M h => ?_) (by decide) (by decide) (by decide)
    · try dsimp only
      rw [F_X4_curse, rqF0 h.1 hf]
    · try dsimp only
      rw [F_X5_curse, mF_f h.1 hf, bd_s, nm_k, if_neg (by decide)]
      try dsimp only
      rw [nm_k, th_1]
theorem cz_t {M M1 : MS} {z : Nat → Int32} {R : Nat → Int32} (h : CR M1 0 R M z) : rF M 54 0 = z 2 := h.2.1.1.2.2.1
theorem s_delay : SOK (fun M => F_X4_delay M) [(2, (1 : Int32))] (fun M => F_X5_delay M) := by
  refine sok_of (fun z m sv t b hp hb => ?_)
  obtain ⟨hz, ht, _⟩ := id hp
  by_cases h2 : z 2 = -1
  · refine go_thr 2 1 hp hb (fun M h => ?_) (fun M h => ?_) (by decide) (by decide) (by decide)
    · try dsimp only
      rw [F_X4_delay, h.1.1.2.2.1, nm_k, if_pos h2]
      try dsimp only
      rw [rqS0]
    · try dsimp only
      rw [F_X5_delay, gd2, tn2, h.1, nm_k, if_neg (fun q => q h2)]
      try dsimp only
      rw [nm_k, th_1]
  · obtain ⟨w1, w2, _⟩ := zde_ok hz ht h2
    refine go_ok (r := zde z 2) (fun M h => ?_) (fun M h => ?_) (PI_new hp w1 w2) hb
    · try dsimp only
      rw [F_X4_delay, h.1.1.2.2.1, nm_k, if_neg h2]
      try dsimp only
      rw [rqS1]
      refine csv h hp (fun M1 R hcr => ?_)
      obtain ⟨M2, k1, k2⟩ := cde_l hcr hz ht h2
      exact ⟨M2, R, by rw [k1, bd_s, cz_t k2], k2⟩
    · try dsimp only
      rw [F_X5_delay, gd2, tn2, h.1, nm_k, if_pos h2]
      try dsimp only
      rw [nm_k, th_0]
      refine msv h hp (fun M1 hm => ?_)
      exact ⟨_, by rw [mde_eq hm hz ht h2, bd_s, gd2, mz_z], FQ_mz, mz_z⟩
theorem s_end : SOK (fun M => F_X4_end M) [(2, (1 : Int32))] (fun M => F_X5_end M) := by
  refine sok_of (fun z m sv t b hp hb => ?_)
  obtain ⟨hz, ht, _⟩ := id hp
  by_cases h2 : z 2 = -1
  · refine go_thr 2 1 hp hb (fun M h => ?_) (fun M h => ?_) (by decide) (by decide) (by decide)
    · try dsimp only
      rw [F_X4_end, h.1.1.2.2.1, nm_k, if_pos h2]
      try dsimp only
      rw [rqS0]
    · try dsimp only
      rw [F_X5_end, gd2, tn2, h.1, nm_k, if_neg (fun q => q h2)]
      try dsimp only
      rw [nm_k, th_1]
  · obtain ⟨w1, w2, _⟩ := zen_ok hz ht h2
    refine go_ok (r := zen z 2) (fun M h => ?_) (fun M h => ?_) (PI_new hp w1 w2) hb
    · try dsimp only
      rw [F_X4_end, h.1.1.2.2.1, nm_k, if_neg h2]
      try dsimp only
      rw [rqS1]
      refine csv h hp (fun M1 R hcr => ?_)
      obtain ⟨M2, k1, k2⟩ := cen_l hcr hz ht h2
      exact ⟨M2, R, by rw [k1, bd_s, cz_t k2], k2⟩
    · try dsimp only
      rw [F_X5_end, gd2, tn2, h.1, nm_k, if_pos h2]
      try dsimp only
      rw [nm_k, th_0]
      refine msv h hp (fun M1 hm => ?_)
      exact ⟨_, by rw [men_eq hm hz ht h2, bd_s, gd2, mz_z], FQ_mz, mz_z⟩
theorem s_comeIn (a : Int32) : SOK (fun M => F_X4_comeIn M a) [(3, (1 : Int32)), (2, (2 : Int32))] (fun M => F_X5_comeIn M a) := by
  refine sok_of (fun z m sv t b hp hb => ?_)
  obtain ⟨hz, ht, _⟩ := id hp
  have hb10 := hz.1.2.1
  by_cases hf : isf z a = true
  · obtain ⟨g, hg, e⟩ := isf_n hz.1 hf
    subst e
    by_cases hq : zci z g = true
    · obtain ⟨w1, w2, _⟩ := zli_ok hz ht hg hq
      refine go_ok (r := zo (zli z g) g 1) (fun M h => ?_) (fun M h => ?_) (PI_new hp w1 w2) hb
      · try dsimp only
        rw [F_X4_comeIn, rqF1 h.1 hf, cci_l h.1 hz hg, bd_s, if_pos hq, rqS1]
        refine csv h hp (fun M1 R hcr => ?_)
        obtain ⟨M2, k1, k2⟩ := cli_l hcr hz ht hg hq
        exact ⟨M2, R, by rw [k1, bd2_s], k2⟩
      · try dsimp only
        rw [F_X5_comeIn, mF_t h.1 hz.1 hf, bd_s, nm_k, if_pos (by decide), mci_eq h.1 (by omega), bd_s, if_pos hq, if_neg (by decide)]
        try dsimp only
        rw [nm_k, th_0]
        refine msv h hp (fun M1 hm => ?_)
        exact ⟨_, by rw [mli_eq hm hz ht hg hq, bd2_s], FQ_mz, mz_z⟩
    · refine go_thr 2 2 hp hb (fun M h => ?_) (fun M h => ?_) (by decide) (by decide) (by decide)
      · try dsimp only
        rw [F_X4_comeIn, rqF1 h.1 hf, cci_l h.1 hz hg, bd_s, if_neg hq, rqS0]
      · try dsimp only
        rw [F_X5_comeIn, mF_t h.1 hz.1 hf, bd_s, nm_k, if_pos (by decide), mci_eq h.1 (by omega), bd_s, if_neg hq, if_pos rfl]
        try dsimp only
        rw [nm_k, th_2]
  · refine go_thr 3 1 hp hb (fun M h => ?_) (fun M h => ?_) (by decide) (by decide) (by decide)
    · try dsimp only
      rw [F_X4_comeIn, rqF0 h.1 hf]
    · try dsimp only
      rw [F_X5_comeIn, mF_f h.1 hf, bd_s, nm_k, if_neg (by decide)]
      try dsimp only
      rw [nm_k, th_1]
/-! come -/
def gcome (a0 a1 a2 a3 : Int32) : Bool := wi a0 0 1 && (wi a1 0 40 && (wi a2 1 99 && wi a3 1 20))
theorem ch_c {M : MS} {β : Type} {a0 a1 a2 a3 : Int32} {J : Int32 → Option β} : (bd (F_X4_isWithin M a0 (0 : Int32) (1 : Int32)) fun r2 => (nm J fun j45_3 => (if r2 = 0 then (j45_3 (0 : Int32)) else (bd (F_X4_isWithin M a1 (0 : Int32) (40 : Int32)) fun r21 => (if r21 = 0 then (j45_3 (0 : Int32)) else (bd (F_X4_isWithin M a2 (1 : Int32) (99 : Int32)) fun r24 => (if r24 = 0 then (j45_3 (0 : Int32)) else (bd (F_X4_isWithin M a3 (1 : Int32) (20 : Int32)) fun r27 => (if r27 = 0 then (j45_3 (0 : Int32)) else (j45_3 (1 : Int32))))))))))) = J (if gcome a0 a1 a2 a3 = true then 1 else 0) := by
  unfold gcome
  by_cases h0 : wi a0 0 1 = true
  · rw [isW_t h0, bd_s, nm_k, if_neg (by decide)]
    by_cases h1 : wi a1 0 40 = true
    · rw [isW_t h1, bd_s, if_neg (by decide)]
      by_cases h2 : wi a2 1 99 = true
      · rw [isW_t h2, bd_s, if_neg (by decide)]
        by_cases h3 : wi a3 1 20 = true
        · rw [isW_t h3, bd_s, if_neg (by decide), h0, h1, h2, h3]; rfl
        · rw [isW_f h3, bd_s, if_pos rfl, if_neg (by simp [h3])]
      · rw [isW_f h2, bd_s, if_pos rfl, if_neg (by simp [h2])]
    · rw [isW_f h1, bd_s, if_pos rfl, if_neg (by simp [h1])]
  · rw [isW_f h0, bd_s, nm_k, if_pos rfl, if_neg (by simp [h0])]
theorem ch_m {M : MS} {β : Type} {a0 a1 a2 a3 : Int32} {J : Int32 → Option β} : (bd (F_X5_in M a0 (0 : Int32) (1 : Int32)) fun r2 => (nm J fun j45_3 => (if r2 = 0 then (j45_3 (0 : Int32)) else (bd (F_X5_in M a1 (0 : Int32) (40 : Int32)) fun r21 => (if r21 = 0 then (j45_3 (0 : Int32)) else (bd (F_X5_in M a2 (1 : Int32) (99 : Int32)) fun r24 => (if r24 = 0 then (j45_3 (0 : Int32)) else (bd (F_X5_in M a3 (1 : Int32) (20 : Int32)) fun r27 => (if r27 = 0 then (j45_3 (0 : Int32)) else (j45_3 (1 : Int32))))))))))) = J (if gcome a0 a1 a2 a3 = true then 1 else 0) := by
  unfold gcome
  by_cases h0 : wi a0 0 1 = true
  · rw [in_t h0, bd_s, nm_k, if_neg (by decide)]
    by_cases h1 : wi a1 0 40 = true
    · rw [in_t h1, bd_s, if_neg (by decide)]
      by_cases h2 : wi a2 1 99 = true
      · rw [in_t h2, bd_s, if_neg (by decide)]
        by_cases h3 : wi a3 1 20 = true
        · rw [in_t h3, bd_s, if_neg (by decide), h0, h1, h2, h3]; rfl
        · rw [in_f h3, bd_s, if_pos rfl, if_neg (by simp [h3])]
      · rw [in_f h2, bd_s, if_pos rfl, if_neg (by simp [h2])]
    · rw [in_f h1, bd_s, if_pos rfl, if_neg (by simp [h1])]
  · rw [in_f h0, bd_s, nm_k, if_pos rfl, if_neg (by simp [h0])]
theorem s_come (a0 a1 a2 a3 : Int32) : SOK (fun M => F_X4_come M a0 a1 a2 a3) [(1, (1 : Int32)), (2, (2 : Int32))] (fun M => F_X5_come M a0 a1 a2 a3) := by
  refine sok_of (fun z m sv t b hp hb => ?_)
  obtain ⟨hz, ht, _⟩ := id hp
  have hb10 := hz.1.2.1
  by_cases hg : gcome a0 a1 a2 a3 = true
  · by_cases h10 : zn z = 10
    · refine go_thr 2 2 hp hb (fun M h => ?_) (fun M h => ?_) (by decide) (by decide) (by decide)
      · try dsimp only
        rw [F_X4_come, ch_c, if_pos hg]
        try dsimp only
        rw [rqA1, h.1.1.1, hz.1.1, nm_k, if_pos (show (10 : Int32) ≤ nI (zn z) from nI_le (a := 10) (by omega) (by omega))]
        try dsimp only
        rw [rqS0]
      · try dsimp only
        rw [F_X5_come, ch_m, if_pos hg]
        try dsimp only
        rw [nm_k, if_pos (by decide), gd0, tn0, h.1, hz.1.1, h10, if_neg (fun q => q rfl)]
        try dsimp only
        rw [nm_k, th_2]
    · have hlt : zn z < 10 := by omega
      obtain ⟨g0, g1, g2, g3⟩ : wi a0 0 1 = true ∧ wi a1 0 40 = true ∧ wi a2 1 99 = true ∧ wi a3 1 20 = true := by
        unfold gcome at hg
        rw [Bool.and_eq_true, Bool.and_eq_true, Bool.and_eq_true] at hg
        exact hg
      obtain ⟨n0, _, hn0, e0⟩ := wi_n (l := 0) (h := 1) g0 (by decide) (by decide)
      obtain ⟨n2, _, hn2, e2⟩ := wi_n (l := 1) (h := 99) g2 (by decide) (by decide)
      obtain ⟨n3, _, hn3, e3⟩ := wi_n (l := 1) (h := 20) g3 (by decide) (by decide)
      have hs : a0 = 0 ∨ a0 = 1 := by
        rcases (show n0 = 0 ∨ n0 = 1 by omega) with q | q
        · exact Or.inl (by rw [e0, q]; rfl)
        · exact Or.inr (by rw [e0, q]; rfl)
      obtain ⟨w1, w2⟩ := zcome_ok (i := a1) hz ht hlt hs ⟨hn2, e2⟩ ⟨hn3, e3⟩
      refine go_ok (r := nI (zn z)) (z' := zcome z a0 a1 a2 a3) (fun M h => ?_) (fun M h => ?_) (PI_new hp w1 w2) hb
      · try dsimp only
        rw [F_X4_come, ch_c, if_pos hg]
        try dsimp only
        rw [rqA1, h.1.1.1, hz.1.1, nm_k, if_neg (show ¬ (10 : Int32) ≤ nI (zn z) from nI_ge (b := 10) hlt (by decide))]
        try dsimp only
        rw [rqS1]
        refine csv h hp (fun M1 R hcr => ?_)
        obtain ⟨M2, k1, k2⟩ := center_l (s := a0) (i := a1) (l := a2) (fo := a3) hcr hz hlt w1.1
        exact ⟨M2, R, by rw [k1, bd2_s], k2⟩
      · try dsimp only
        rw [F_X5_come, ch_m, if_pos hg]
        try dsimp only
        rw [nm_k, if_pos (by decide), gd0, tn0, h.1, hz.1.1, if_pos (show ¬ nI (zn z) = 10 from fun q => h10 ((nI_eq (a := zn z) (b := 10) (by omega) (by decide)).mp q))]
        try dsimp only
        rw [nm_k, th_0]
        refine msv h hp (fun M1 hm => ?_)
        have k1 := mcome_l (M := M1) (z := z) (s := a0) (i := a1) (l := a2) (fo := a3) hz.1 hlt 17 0 FU (by omega) (by rw [FU_s]; omega)
        have e1 : mz M1 (zclr z (zn z) 0) = M1 := by rw [zclr, ← hm, mz_self]
        rw [e1] at k1
        exact ⟨_, by rw [gd0, nm_k, hm, hz.1.1]; exact k1, FQ_mz, mz_z⟩
  · refine go_thr 1 1 hp hb (fun M h => ?_) (fun M h => ?_) (by decide) (by decide) (by decide)
    · try dsimp only
      rw [F_X4_come, ch_c, if_neg hg]
      try dsimp only
      rw [rqA0]
    · try dsimp only
      rw [F_X5_come, ch_m, if_neg hg]
      try dsimp only
      rw [nm_k, if_neg (by decide)]
      try dsimp only
      rw [nm_k, th_1]
