theorem st_act {M : MS} {z : Nat → Int32} {n c r : Nat} {kd x : Int32} {J : Int32 → MS → Option Int32} (hJ : JP n J) (h : LM M z n) (h6 : n ≤ 6) (h2 : ¬ z 2 = -1) (hx : xok z kd x) (hk : k4 kd) (hc : c < 4) (hr1 : 1 ≤ r) (hr : r ≤ 5) :
    (bd2 (F_L_can M (nI (ztn z)) kd x) fun r137 M136 => (bd0 (F_X4_ifDone M136 kd x (0 : Int32)) fun r140 M139 => (nm (fun (s141 : Int32) => (if r140 = s141 then (if r137 = 0 then (J (1 : Int32) M139) else (bd2 (F_L_act M139 kd x (nI c) (nI r)) fun r147 M146 => (nm (fun (s148 : Int32) (M149 : MS) => (if ¬ s148 = r147 then (J (0 : Int32) M149) else (J (1 : Int32) M149))) fun j532_149 => (if ¬ kd = 0 then (if ¬ kd = (1 : Int32) then (if ¬ kd = (2 : Int32) then (bd0 (F_X4_curse M146 x (nI c) (nI r)) fun r157 M156 => (j532_149 r157 M156)) else (bd0 (F_X4_help M146 x) fun r160 M159 => (j532_149 r160 M159))) else (bd0 (F_X4_step M146 x) fun r163 M162 => (j532_149 r163 M162))) else (bd0 (F_X4_strike M146 x) fun r166 M165 => (j532_149 r166 M165)))))) else (some (0 : Int32)))) fun j448_141 => (if r137 = 0 then (j448_141 (0 : Int32)) else (j448_141 (1 : Int32)))))) = some 1 := by
  have hLM := h
  obtain ⟨hS, hl, hn, hta⟩ := h
  subst hn
  obtain ⟨hz, ht⟩ := SJ_z hS
  obtain ⟨d1, d2, d3, d4, d5⟩ := TH_t hz ht h2
  obtain ⟨M1, q1, q2, q3⟩ := q_ifDone hS hx hk
  have l1 := LRt_MP hl q3
  have hzc : zcx z kd x = zpos z (ztn z) kd x := by unfold zcx; simp [h2]
  rw [can_ok hS SB_refl hl hz h6 d1 hx hk, bd2_s, q1, bd0_s, nm_k, hzc]
  by_cases c1 : zpos z (ztn z) kd x = true
  · have hq : zcx z kd x = true := hzc.trans c1
    rw [if_pos c1, if_neg (show ¬ (1 : Int32) = 0 by decide)]
    try dsimp only
    rw [if_pos rfl, if_neg (show ¬ (1 : Int32) = 0 by decide)]
    rw [d2] at l1
    -- what the act leaves, on both sides
    have fin : ∀ (c' r' : Nat) (M2 M3 : MS), c' < 4 → r' ≤ 5 → LRt M2 (zact z (ztn z) kd x c' (nI r')) (zact z (ztn z) kd x c' (nI r') 2) → SJ M3 (zdA z kd x c' r') → MPart M2 M3 → J 1 M3 = some 1 := by
      intro c' r' M2 M3 hc' hr' hl2 hS3 hp3
      refine hJ M3 (zdA z kd x c' r') ⟨hS3, LRt_MP hl2 hp3, (zdA_ok hz ht hx hc' hr' hq).2.2, ?_⟩
      obtain ⟨o1, o2⟩ := off_ok (kd := kd) hz d1
      obtain ⟨w1, w2⟩ := act1_ok (c := c') (r := r') (ri := nI r') o1 o2 d1 hx hc' hr' rfl
      exact zend_ta w1 (by rw [w2]; exact d1)
    rcases hk with e | e | e | e
    · subst e
      obtain ⟨g, hg, ex⟩ : ∃ g, g < zn z ∧ x = nI g := by
        rcases hx with ⟨e, _⟩ | ⟨_, e⟩
        · exact absurd e (by decide)
        · exact e
      subst ex
      obtain ⟨M2, a1, a2, a3⟩ := act_ok (c := 0) (r := 0) (ci := nI c) (ri := nI r) q2 l1 hz h6 d1 d5 hx (Or.inl rfl) (by decide) (by decide) (fun q => absurd q (by decide))
      obtain ⟨M3, b1, b2, b3⟩ := q_strike (SJ_LF q2 a3) hg hq
      rw [a1, bd2_s, nm_k, if_neg (show ¬ ¬ (0 : Int32) = 0 from fun q => q rfl), b1]
      rw [bd0_s]
      try dsimp only
      rw [if_neg (show ¬ ¬ zdR z 0 (nI g) 0 0 = zactR z (ztn z) 0 (nI g) 0 (nI 0) from fun q => q rfl)]
      exact fin 0 0 M2 M3 (by decide) (by decide) a2 b2 b3
    · subst e
      obtain ⟨g, hg, ex⟩ : ∃ g, g ≤ 9 ∧ x = nI g := by
        rcases hx with ⟨_, e⟩ | ⟨e, _⟩
        · exact e
        · exact absurd rfl e
      subst ex
      obtain ⟨M2, a1, a2, a3⟩ := act_ok (c := 0) (r := 0) (ci := nI c) (ri := nI r) q2 l1 hz h6 d1 d5 hx (Or.inr (Or.inl rfl)) (by decide) (by decide) (fun q => absurd q (by decide))
      obtain ⟨M3, b1, b2, b3⟩ := q_step (SJ_LF q2 a3) hg hq
      rw [a1, bd2_s, nm_k, if_pos (show ¬ (1 : Int32) = 0 by decide), if_neg (show ¬ ¬ (1 : Int32) = 1 from fun q => q rfl), b1]
      rw [bd0_s]
      try dsimp only
      rw [if_neg (show ¬ ¬ zdR z 1 (nI g) 0 0 = zactR z (ztn z) 1 (nI g) 0 (nI 0) from fun q => q rfl)]
      exact fin 0 0 M2 M3 (by decide) (by decide) a2 b2 b3
    · subst e
      obtain ⟨g, hg, ex⟩ : ∃ g, g < zn z ∧ x = nI g := by
        rcases hx with ⟨e, _⟩ | ⟨_, e⟩
        · exact absurd e (by decide)
        · exact e
      subst ex
      obtain ⟨M2, a1, a2, a3⟩ := act_ok (c := 0) (r := 0) (ci := nI c) (ri := nI r) q2 l1 hz h6 d1 d5 hx (Or.inr (Or.inr (Or.inl rfl))) (by decide) (by decide) (fun q => absurd q (by decide))
      obtain ⟨M3, b1, b2, b3⟩ := q_help (SJ_LF q2 a3) hg hq
      rw [a1, bd2_s, nm_k, if_pos (show ¬ (2 : Int32) = 0 by decide), if_pos (show ¬ (2 : Int32) = 1 by decide), if_neg (show ¬ ¬ (2 : Int32) = 2 from fun q => q rfl), b1]
      rw [bd0_s]
      try dsimp only
      rw [if_neg (show ¬ ¬ zdR z 2 (nI g) 0 0 = zactR z (ztn z) 2 (nI g) 0 (nI 0) from fun q => q rfl)]
      exact fin 0 0 M2 M3 (by decide) (by decide) a2 b2 b3
    · subst e
      obtain ⟨g, hg, ex⟩ : ∃ g, g < zn z ∧ x = nI g := by
        rcases hx with ⟨e, _⟩ | ⟨_, e⟩
        · exact absurd e (by decide)
        · exact e
      subst ex
      obtain ⟨M2, a1, a2, a3⟩ := act_ok (c := c) (r := r) (ci := nI c) (ri := nI r) q2 l1 hz h6 d1 d5 hx (Or.inr (Or.inr (Or.inr rfl))) hc hr (fun _ => ⟨rfl, rfl⟩)
      obtain ⟨M3, b1, b2, b3⟩ := q_curse (SJ_LF q2 a3) hg hc hr1 hr hq
      rw [a1, bd2_s, nm_k, if_pos (show ¬ (3 : Int32) = 0 by decide), if_pos (show ¬ (3 : Int32) = 1 by decide), if_pos (show ¬ (3 : Int32) = 2 by decide), b1]
      rw [bd0_s]
      try dsimp only
      rw [if_neg (show ¬ ¬ zdR z 3 (nI g) c r = zactR z (ztn z) 3 (nI g) c (nI r) from fun q => q rfl)]
      exact fin c r M2 M3 hc hr a2 b2 b3
  · rw [if_neg c1, if_pos rfl]
    try dsimp only
    rw [if_pos rfl]
    try rw [if_pos rfl]
    exact hJ M1 z ⟨q2, l1, rfl, hta⟩
set_option maxHeartbeats 8000000 in
theorem main_l {xs : Nat → Int32} {L n : Nat} (hL : L ≤ 260) (hn2 : 2 ≤ n) (h6 : n ≤ 6) : ∀ d e k (M : MS) (z : Nat → Int32), e + d = 45 → d < k → LM M z n → F_L_law_l286 xs L (nI n) k (nI e) M = some 1 := by
  intro d
  induction d with
  | zero =>
    intro e k M z he hk h
    obtain ⟨k, rfl⟩ : ∃ q, k = q + 1 := ⟨k - 1, by omega⟩
    have : e = 45 := by omega
    subst this
    rw [F_L_law_l286, if_pos (show (45 : Int32) ≤ nI 45 by decide)]
  | succ d ih =>
    intro e k M z he hk h
    obtain ⟨k, rfl⟩ : ∃ q, k = q + 1 := ⟨k - 1, by omega⟩
    have hLM := h
    obtain ⟨hS, hl, hn, hta⟩ := h
    obtain ⟨hz, ht⟩ := SJ_z hS
    obtain ⟨v, hv⟩ := cell_ok (xs := xs) (L := L) (j := 8 + e) hL (by omega)
    have hv' : F_L_cell xs L ((8 : Int32) + nI e) = some v := by rw [nI_lit 8, nI_add]; exact hv
    have low9 : ∀ (M : MS) (v : Int32), F_L_low M v (9 : Int32) = some (nI (lo v 9)) := fun M v => low_ok (by decide) (by decide)
    have low4 : ∀ (M : MS) (v : Int32), F_L_low M v (4 : Int32) = some (nI (lo v 4)) := fun M v => low_ok (by decide) (by decide)
    have low5 : ∀ (M : MS) (v : Int32), F_L_low M v (5 : Int32) = some (nI (lo v 5)) := fun M v => low_ok (by decide) (by decide)
    have low2 : ∀ (M : MS) (v : Int32), F_L_low M v (2 : Int32) = some (nI (lo v 2)) := fun M v => low_ok (by decide) (by decide)
    have low10 : ∀ (M : MS) (v : Int32), F_L_low M v (10 : Int32) = some (nI (lo v 10)) := fun M v => low_ok (by decide) (by decide)
    rw [F_L_law_l286, if_neg (show ¬ (45 : Int32) ≤ nI e from nI_ge (b := 45) (by omega) (by decide)), hv', bd_s, low9, bd_s, low_ok (by omega) (by omega), bd_s, g70, tn0, hl.2.2.2.1, nm_k]
    obtain ⟨kq, hkq⟩ : ∃ kq, kq = lo v 9 := ⟨_, rfl⟩
    have hk9 : kq < 9 := by rw [hkq]; exact lo_lt (by decide)
    obtain ⟨g, hge⟩ : ∃ g, g = lo (v >>> ((4 : Int32) &&& 31)) n := ⟨_, rfl⟩
    have hg : g < n := by rw [hge]; exact lo_lt (by omega)
    rw [← hkq, ← hge]
    refine nm_all (JP n) (fun M' z' h' => ?_) (fun J hJ => ?_)
    · rw [if_neg (show ¬ (1 : Int32) = 0 by decide)]
      obtain ⟨M2, t1, t2, t3⟩ := tells_ok h'.1 h'.2.1 (by rw [h'.2.2.1]; exact h6)
      rw [t1, bd2_s, if_pos (show ¬ (1 : Int32) = 0 by decide), nm_k, nI_1]
      exact ih (e + 1) k M2 z' (by omega) (by omega) ⟨SJ_LF h'.1 t3, t2, h'.2.2⟩
    try dsimp only
    by_cases h2 : z 2 = -1
    · have hall := (zst_all (zn z) (fun f hf => (hz.2.1 f hf).1)).mpr (hta h2)
      rw [h2, if_neg (show ¬ (0 : Int32) ≤ -1 by decide), cc3 hS, bd0_s, cc4 hS, bd0_s, nI_add, hall, if_neg (show ¬ ¬ nI 0 = 0 from fun q => q rfl)]
      exact hJ M z hLM
    obtain ⟨d1, d2, d3, d4, d5⟩ := TH_t hz ht h2
    rw [d2, if_pos (nI_pos' (by omega))]
    have hE := st_end hJ hLM h6 h2
    have hD := st_delay hJ hLM h6 h2
    have hC := st_comeIn hJ hLM h6 h2 hg
    by_cases c4 : kq < 4
    · rw [if_neg (show ¬ (4 : Int32) ≤ nI kq from nI_ge (b := 4) c4 (by decide))]
      have hk4 : k4 (nI kq) := by
        rcases (show kq = 0 ∨ kq = 1 ∨ kq = 2 ∨ kq = 3 by omega) with q | q | q | q <;> rw [q]
        · exact Or.inl rfl
        · exact Or.inr (Or.inl rfl)
        · exact Or.inr (Or.inr (Or.inl rfl))
        · exact Or.inr (Or.inr (Or.inr rfl))
      have go : ∀ x : Int32, xok z (nI kq) x → (bd (F_L_low M (v >>> ((12 : Int32) &&& 31)) (4 : Int32)) fun r131 => (bd (F_L_low M (v >>> ((14 : Int32) &&& 31)) (5 : Int32)) fun r133 => (nm ((1 : Int32) + r133) fun x134 => (bd2 (F_L_can M (nI (ztn z)) (nI kq) x) fun r137 M136 => (bd0 (F_X4_ifDone M136 (nI kq) x (0 : Int32)) fun r140 M139 => (nm (fun (s141 : Int32) => (if r140 = s141 then (if r137 = 0 then (J (1 : Int32) M139) else (bd2 (F_L_act M139 (nI kq) x r131 x134) fun r147 M146 => (nm (fun (s148 : Int32) (M149 : MS) => (if ¬ s148 = r147 then (J (0 : Int32) M149) else (J (1 : Int32) M149))) fun j532_149 => (if ¬ nI kq = 0 then (if ¬ nI kq = (1 : Int32) then (if ¬ nI kq = (2 : Int32) then (bd0 (F_X4_curse M146 x r131 x134) fun r157 M156 => (j532_149 r157 M156)) else (bd0 (F_X4_help M146 x) fun r160 M159 => (j532_149 r160 M159))) else (bd0 (F_X4_step M146 x) fun r163 M162 => (j532_149 r163 M162))) else (bd0 (F_X4_strike M146 x) fun r166 M165 => (j532_149 r166 M165)))))) else (some (0 : Int32)))) fun j448_141 => (if r137 = 0 then (j448_141 (0 : Int32)) else (j448_141 (1 : Int32))))))))) = some 1 := by
        intro x hx
        have h5 := lo_lt (v := v >>> ((14 : Int32) &&& 31)) (n := 5) (by decide)
        rw [low4, bd_s, low5, bd_s, nm_k, nI_lit 1, nI_add]
        exact st_act hJ hLM h6 h2 hx hk4 (lo_lt (by decide)) (by omega) (by omega)
      rw [nm_k]
      by_cases c1 : kq = 1
      · have e1 : nI kq = 1 := by rw [c1]; rfl
        rw [if_neg (fun q => q e1), low10, bd_s]
        exact go _ (Or.inl ⟨e1, _, by have := lo_lt (v := v >>> ((8 : Int32) &&& 31)) (n := 10) (by decide); omega, rfl⟩)
      · have e1 : ¬ nI kq = 1 := fun q => c1 ((nI_eq (a := kq) (b := 1) (by omega) (by decide)).mp q)
        rw [if_pos e1]
        exact go _ (Or.inr ⟨e1, g, by rw [hn]; exact hg, rfl⟩)
    rw [if_pos (show (4 : Int32) ≤ nI kq from nI_le (a := 4) (by omega) (by omega))]
    by_cases c5 : kq = 4
    · have e4 : nI kq = 4 := by rw [c5]; rfl
      rw [if_neg (fun q => q e4)]
      exact hD
    have e4 : ¬ nI kq = 4 := fun q => c5 ((nI_eq (a := kq) (b := 4) (by omega) (by decide)).mp q)
    rw [if_pos e4]
    refine nm_all (fun j => j = some 1) ?_ (fun j758 hj => ?_)
    · by_cases c7 : kq = 7
      · have e7 : nI kq = 7 := by rw [c7]; rfl
        rw [if_neg (fun q => q e7)]
        exact hC
      · have e7 : ¬ nI kq = 7 := fun q => c7 ((nI_eq (a := kq) (b := 7) (by omega) (by decide)).mp q)
        rw [if_pos e7]
        exact hE
    try dsimp only
    subst hj
    by_cases c7 : 7 ≤ kq
    · rw [if_pos (show (7 : Int32) ≤ nI kq from nI_le (a := 7) c7 (by omega))]
    rw [if_neg (show ¬ (7 : Int32) ≤ nI kq from nI_ge (b := 7) (by omega) (by decide))]
    by_cases cg : g = ztn z
    · rw [if_pos (by rw [cg])]
    have hgn : ¬ nI g = nI (ztn z) := fun q => cg ((nI_eq (by omega) (by omega)).mp q)
    rw [if_neg hgn, nI_1, low_ok (by omega) (by omega), bd_s, nm_k, nm_k]
    obtain ⟨u, hu⟩ : ∃ u, u = lo (v >>> ((9 : Int32) &&& 31)) (n + 1) := ⟨_, rfl⟩
    have hun : u < n + 1 := by rw [hu]; exact lo_lt (by omega)
    rw [← hu]
    have hw : nI u - 1 = -1 ∨ ∃ q, q < n ∧ nI u - 1 = nI q := by
      by_cases c0 : u = 0
      · exact Or.inl (by rw [c0]; decide)
      · obtain ⟨q, rfl⟩ : ∃ q, u = q + 1 := ⟨u - 1, by omega⟩
        exact Or.inr ⟨q, by omega, nI_pred q⟩
    by_cases cw : nI u - 1 = nI (ztn z)
    · rw [if_neg (fun q => q cw)]
      exact st_ready hJ hLM h6 h2 hg cg (lo_lt (by decide)) (lo_lt (by decide)) (Or.inl rfl) (fun q => ne1 (ztn z) (by omega) q.symm) (fun M => low2 M _) (fun M => low4 M _)
    · rw [if_pos cw]
      exact st_ready hJ hLM h6 h2 hg cg (lo_lt (by decide)) (lo_lt (by decide)) hw cw (fun M => low2 M _) (fun M => low4 M _)
