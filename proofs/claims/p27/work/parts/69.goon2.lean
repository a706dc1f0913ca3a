/-! the law's goOn, whole; its endTurn -/
theorem pm1 {p : Nat} : nI p - 1 + (1 : Int32) = nI p := Int32.sub_add_cancel _ _
theorem pm1' {p : Nat} : nI p = nI (p + 1) - 1 := (nI_pred p).symm
theorem goOn_at {z : Nat → Int32} {M : MS} {k p lk : Nat} (h : LRt M z (-1)) (h10 : zn z ≤ 6) (hp : p ≤ zn z) (hl : lk ≤ p) : F_L_goOn_l16 (nI (zn z)) (k + 1) (nI p - 1) (nI lk) M = if ¬ nI p = nI (zn z) then goE (nI (zn z)) k (nI p) (nI lk) M else F_L_goOn_l45 (nI (zn z)) M (goE (nI (zn z)) k) FU 0 0 := by
  rw [goOn_s, if_neg (nI_nlt (by omega) (by omega)), g70, tn0, h.2.2.2.1, if_neg (by decide), pm1]
/-- the row from a place on -/
theorem scan {z : Nat → Int32} {M : MS} (h : LRt M z (-1)) (hz : ZW z) (h6 : zn z ≤ 6) : ∀ d p lk k, p + d = zn z → lk ≤ p → d + 1 ≤ k →
    (∃ pos lk' k', pos < zn z ∧ lk' ≤ pos ∧ k ≤ k' + d + 1 ∧ znx z d p = nI (zrow z pos) ∧ ¬ zo z (zrow z pos) 2 = 0 ∧ zo z (zrow z pos) 6 = 0 ∧ F_L_goOn_l16 (nI (zn z)) k (nI p - 1) (nI lk) M = goE (nI (zn z)) k' (nI pos) (nI lk') M) ∨
    (znx z d p = -1 ∧ ∃ k', k ≤ k' + d + 1 ∧ F_L_goOn_l16 (nI (zn z)) k (nI p - 1) (nI lk) M = F_L_goOn_l45 (nI (zn z)) M (goE (nI (zn z)) k') FU 0 0) := by
  intro d
  induction d with
  | zero =>
    intro p lk k hp hl hk
    obtain ⟨k, rfl⟩ : ∃ q, k = q + 1 := ⟨k - 1, by omega⟩
    have e : p = zn z := by omega
    rw [goOn_at h h6 (by omega) hl, if_neg (fun q => q (by rw [e]))]
    exact Or.inr ⟨rfl, k, by omega, rfl⟩
  | succ d ih =>
    intro p lk k hp hl hk
    obtain ⟨k, rfl⟩ : ∃ q, k = q + 1 := ⟨k - 1, by omega⟩
    have hne : ¬ nI p = nI (zn z) := fun q => by have := (nI_eq (by omega) (by omega)).mp q; omega
    rw [goOn_at h h6 (by omega) hl, if_pos hne, znx]
    by_cases c : ¬ zo z (zrow z p) 2 = 0 ∧ zo z (zrow z p) 6 = 0
    · rw [if_pos c]
      exact Or.inl ⟨p, lk, k, by omega, hl, by omega, (hz.1.2.2.1 p (by omega)).1, c.1, c.2, rfl⟩
    · rw [if_neg c, goE_no h hz h6 (by omega) c, pm1' (p := p)]
      rcases ih (p + 1) (lk + 1) k (by omega) (by omega) (by omega) with ⟨pos, lk', k', a1, a2, a3, a4⟩ | ⟨a1, k', a2, a3⟩
      · exact Or.inl ⟨pos, lk', k', a1, a2, by omega, a4⟩
      · exact Or.inr ⟨a1, k', by omega, a3⟩
/-- who comes next: the place, found -/
theorem scan2 {z : Nat → Int32} {M : MS} {p lk k : Nat} (h : LRt M z (-1)) (hz : ZW z) (h6 : zn z ≤ 6) (hp : p ≤ zn z) (hl : lk ≤ p) (ha : ¬ zall z (zn z) = true) (hk : 20 ≤ k) : ∃ pos lk' k' M', pos < zn z ∧ lk' ≤ pos ∧ k ≤ k' + 16 ∧ (znext z p).2 = nI (zrow (znext z p).1 pos) ∧ ¬ zo (znext z p).1 (zrow (znext z p).1 pos) 2 = 0 ∧ zo (znext z p).1 (zrow (znext z p).1 pos) 6 = 0 ∧ LRt M' (znext z p).1 (-1) ∧ LF M M' ∧ F_L_goOn_l16 (nI (zn z)) k (nI p - 1) (nI lk) M = goE (nI (zn z)) k' (nI pos) (nI lk') M' := by
  obtain ⟨f, hf, hn, hz1, hn1, h1, h6', ho, hr⟩ := znext_ok hz.1 hp ha
  rcases scan h hz h6 (zn z - p) p lk k (by omega) hl (by omega) with ⟨pos, lk', k', a1, a2, a3, a4, a5, a6, a7⟩ | ⟨a1, k', a2, a3⟩
  · have hb := (hz.1.2.2.1 pos a1).2
    have e1 : znext z p = (z, znx z (zn z - p) p) := by unfold znext; rw [if_neg (by rw [a4]; exact ne1 _ (by omega))]
    rw [e1]
    exact ⟨pos, lk', k', M, a1, a2, by omega, a4, a5, a6, h, LF_refl, a7⟩
  · have e1 : znext z p = (zdel (upd z 1 (z 1 + 1)) (zn z), znx (zdel (upd z 1 (z 1 + 1)) (zn z)) (zn z) 0) := by unfold znext; rw [if_pos a1]
    obtain ⟨M1, g1, g2, g3⟩ := some45 (J := goE (nI (zn z)) k') h hz h6 ha (zn z) 0 FU (by omega) (by rw [FU_s]; omega)
    have g1' : F_L_goOn_l45 (nI (zn z)) M (goE (nI (zn z)) k') FU 0 0 = goE (nI (zn z)) k' 0 0 M1 := g1
    have w1 : ZW (znext z p).1 := ZW_next hz
    have npos : 0 < zn z := by omega
    rw [e1] at hn hz1 hn1 h1 h6' hr w1 ⊢
    dsimp only at hn hz1 hn1 h1 h6' hr w1 ⊢
    obtain ⟨z1, hz1e⟩ : ∃ z1, zdel (upd z 1 (z 1 + 1)) (zn z) = z1 := ⟨_, rfl⟩
    rw [hz1e] at hn hz1 hn1 h1 h6' hr w1 g2 ⊢
    obtain ⟨d, hd⟩ : ∃ d, zn z = d + 1 := ⟨zn z - 1, by omega⟩
    have hx : znx z1 (zn z) 0 = if ¬ zo z1 (zrow z1 0) 2 = 0 ∧ zo z1 (zrow z1 0) 6 = 0 then z1 (6 + 0) else znx z1 d 1 := by rw [hd, znx]
    rw [a3, g1']
    by_cases c : ¬ zo z1 (zrow z1 0) 2 = 0 ∧ zo z1 (zrow z1 0) 6 = 0
    · refine ⟨0, 0, k', M1, npos, Nat.le_refl _, by omega, ?_, c.1, c.2, g2, g3, rfl⟩
      rw [hx, if_pos c]
      exact (hz1.2.2.1 0 (by omega)).1
    · rw [if_neg c] at hx
      have e0 := goE_no (k := k') (p := 0) (lk := 0) g2 w1 (by rw [hn1]; exact h6) (by omega) c
      rw [hn1] at e0
      have e0' : goE (nI (zn z)) k' 0 0 M1 = F_L_goOn_l16 (nI (zn z)) k' (nI 0) (nI 1) M1 := e0
      rw [e0', pm1' (p := 0)]
      rcases scan g2 w1 (by rw [hn1]; exact h6) d 1 1 k' (by omega) (by omega) (by omega) with ⟨pos, lk', k2, b1, b2, b3, b4, b5, b6, b7⟩ | ⟨b1, _⟩
      · rw [hn1] at b1 b7
        exact ⟨pos, lk', k2, M1, b1, b2, by omega, by rw [hx]; exact b4, b5, b6, g2, g3, b7⟩
      · exfalso
        rw [hx, b1] at hn
        exact ne1 f (by omega) hn.symm
theorem goOn_m : ∀ m (z : Nat → Int32) (p lk k : Nat) (M : MS), ZW z → zn z ≤ 6 → p ≤ zn z → lk ≤ p → zmu z (zn z) < m → LRt M z (-1) → ¬ zall z (zn z) = true → 20 * m + 5 < k → ∃ M', F_L_goOn_l16 (nI (zn z)) k (nI p - 1) (nI lk) M = some M' ∧ LRt M' (zgo m z p) (zgo m z p 2) ∧ LF M M' := by
  intro m
  induction m with
  | zero => intro z p lk k M _ _ _ _ h; omega
  | succ m ih =>
    intro z p lk k M hz h6 hp hl hmu h ha hk
    obtain ⟨f, hf, hn, hz1, hn1, h1, hd6, ho, hr⟩ := znext_ok hz.1 hp ha
    obtain ⟨pos, lk', k', M1, a1, a2, a3, a4, a5, a6, a7, a8, a9⟩ := scan2 (k := k) h hz h6 hp hl ha (by omega)
    have w1 : ZW (znext z p).1 := ZW_next hz
    have hb := hz.1.2.1
    have hpr := (hz1.2.2.1 pos (by omega)).2
    have hfe : zrow (znext z p).1 pos = f := by
      rw [hn] at a4
      exact ((nI_eq (by omega) (by omega)).mp a4).symm
    have hcl : (znext z p).2.toNatClampNeg = f := by rw [hn, nI_clamp (by omega)]
    rw [zgo, if_neg ha, hcl, a9]
    obtain ⟨y1, y2⟩ := goE_yes (k := k') (lk := lk') a7 w1 (by rw [hn1]; exact h6) (by rw [hn1]; exact a1) a5 a6
    rw [hfe, hn1] at y1 y2
    by_cases hc : zo (zbeg (znext z p).1 f) f 2 = 0 ∨ 0 < zo (zbeg (znext z p).1 f) f 11
    · obtain ⟨M2, c1, c2, c3⟩ := y1 hc
      rw [c3, if_pos hc]
      obtain ⟨s1, s2, s3⟩ := Z0_beg (f := f) hz1
      obtain ⟨t1, t2, t3⟩ := Z0_pass (f := f) (c := 4) s1
      have hnn : zn (zpass (zbeg (znext z p).1 f) f 4) = zn z := t2.trans (s2.trans hn1)
      have hst := zgo_step hz.1 hp ha hf hn h1 hz1 ho hc
      have wp : ZW (zpass (zbeg (znext z p).1 f) f 4) := ZW_pass (ZW_beg w1 (by rw [hn1]; exact hf)) (by rw [s2, hn1]; exact hf) 4 (by decide)
      obtain ⟨u1, u2, u3⟩ := zpn_lt t1 (f := f) (by rw [hnn]; exact hf)
      have hpos : zpn (zpass (zbeg (znext z p).1 f) f 4) f = pos := by
        refine t1.2.2.2 _ _ u1 (by rw [hnn]; exact a1) (u3.trans ?_)
        rw [t3 pos (by rw [s2, hn1]; exact a1), s3 pos (by rw [hn1]; exact a1), hfe]
      rw [hpos]
      by_cases hall : zall (zpass (zbeg (znext z p).1 f) f 4) (zn z) = true
      · rw [if_pos hall]
        obtain ⟨m', rfl⟩ : ∃ q, m = q + 1 := ⟨m - 1, by omega⟩
        rw [zgo, hnn, if_pos hall, upd_s]
        exact ⟨M2, rfl, LRt_2 c1 t1, LF_trans a8 c2⟩
      · rw [if_neg hall]
        obtain ⟨M3, d1, d2, d3⟩ := ih (zpass (zbeg (znext z p).1 f) f 4) (pos + 1) 1 k' M2 wp (by rw [hnn]; exact h6) (by rw [hnn]; omega) (by omega) (by rw [hnn]; omega) c1 (by rw [hnn]; exact hall) (by omega)
        rw [hnn, nI_pred] at d1
        exact ⟨M3, d1, d2, LF_trans (LF_trans a8 c2) d3⟩
    · obtain ⟨M2, c1, c2, c3⟩ := y2 hc
      rw [c3, if_neg hc, zbeg_lo (by decide), if_neg (by decide), if_pos rfl]
      obtain ⟨k2, rfl⟩ : ∃ q, k' = q + 1 := ⟨k' - 1, by omega⟩
      refine ⟨M2, ?_, c1, LF_trans a8 c2⟩
      rw [goOn_s, g70, tn0, c1.2.2.2.1, if_pos (nI_pos' (by omega))]
      by_cases q : nI (zn z) < nI (lk' + 1)
      · rw [if_pos q]
      · rw [if_neg q]
theorem goOn_ok {M : MS} {z : Nat → Int32} {tv x : Int32} {p : Nat} (h : LRt M z tv) (hz : ZW z) (h6 : zn z ≤ 6) (hp : p ≤ zn z) (ha : ¬ zall z (zn z) = true) (hx : x = nI p - 1) : ∃ M', F_L_goOn M x = some M' ∧ LRt M' (zgo 100 z p) (zgo 100 z p 2) ∧ LF M M' := by
  have hmu := zmu_60 hz
  obtain ⟨M', g1, g2, g3⟩ := goOn_m 100 z p 0 FU (wA M 223 0 (-1)) hz h6 hp (by omega) (by omega) (LRt_0 h) ha (by rw [FU_s]; decide)
  refine ⟨M', ?_, g2, LF_trans (LF_A (by decide)) g3⟩
  rw [F_L_goOn, g75, nm_k, g70, tn0, nm_k, tn5, h.2.2.2.2 5 (by decide) (by decide), show z (tw 5) = z 0 from rfl, hz.1.1, hx]
  exact g1
theorem some17 {M : MS} {z : Nat → Int32} {f : Nat} (h : LRt M z (nI f)) (hz : ZW z) (h6 : zn z ≤ 6) (hf : f < zn z) : ∀ d i k, i + d = zn z → d < k → ∃ M', F_L_endTurn_l17 (nI f) M k (if zall z i = true then 0 else 1) (nI i) = some M' ∧ LRt M' (zgo 100 z (zpn z f + 1)) (zgo 100 z (zpn z f + 1) 2) ∧ LF M M' := by
  have h5 : rA M 223 5 = nI (zn z) := by rw [h.2.2.2.2 5 (by decide) (by decide)]; exact hz.1.1
  intro d
  induction d with
  | zero =>
    intro i k hi hk
    obtain ⟨k, rfl⟩ : ∃ q, k = q + 1 := ⟨k - 1, by omega⟩
    have e : i = zn z := by omega
    subst e
    rw [F_L_endTurn_l17, g75, tn5, h5, if_pos (nI_le (Nat.le_refl _) (by omega))]
    by_cases c : zall z (zn z) = true
    · rw [if_pos c, if_pos rfl, g70, tn0, nm_k, zgo, if_pos c, upd_s]
      exact ⟨_, rfl, LRt_2 (LRt_0 h) hz.1, LF_A (by decide)⟩
    · obtain ⟨p1, p2, p3⟩ := zpn_lt hz.1 hf
      obtain ⟨M', g1, g2, g3⟩ := goOn_ok (p := zpn z f + 1) h hz h6 (by omega) c pm1'
      rw [if_neg c, if_neg (by decide), rank_ok h hz.1 h6 hf, bd_s, g1, bd_s]
      exact ⟨M', rfl, g2, g3⟩
  | succ d ih =>
    intro i k hi hk
    obtain ⟨k, rfl⟩ : ∃ q, k = q + 1 := ⟨k - 1, by omega⟩
    obtain ⟨M', h1, h2, h3⟩ := ih (i + 1) k (by omega) (by omega)
    refine ⟨M', ?_, h2, h3⟩
    rw [F_L_endTurn_l17, g75, tn5, h5, if_neg (nI_ge (by omega) (by omega))]
    by_cases c : zall z i = true
    · rw [acc1 c] at h1
      rw [if_pos c, if_neg (fun q => q rfl), lives_ok h hz h6 (by omega), bd_s]
      by_cases c2 : zo z i 2 = 0
      · rw [if_pos c2, if_pos rfl, nm_k, nI_1]
        rw [if_pos (by simpa using c2)] at h1
        exact h1
      · rw [if_neg c2, if_neg (by decide), nm_k, nI_1]
        rw [if_neg (by simpa using c2)] at h1
        exact h1
    · rw [if_neg (acc0 c)] at h1
      rw [if_neg c, if_pos (by decide), nm_k, nI_1]
      exact h1
theorem endTurn_ok {M : MS} {z : Nat → Int32} {f : Nat} (h : LRt M z (nI f)) (hz : ZW z) (h6 : zn z ≤ 6) (hf : f < zn z) : ∃ M', F_L_endTurn M = some M' ∧ LRt M' (zend z f) (zend z f 2) ∧ LF M M' := by
  obtain ⟨M1, a1, a2, a3, _⟩ := fade_ok h hz h6 hf
  have wp := ZW_pass (f := f) hz hf 4 (by decide)
  have np : zn (zpass z f 4) = zn z := (Z0_pass hz.1).2.1
  obtain ⟨M2, b1, b2, b3⟩ := some17 a2 wp (by rw [np]; exact h6) (by rw [np]; exact hf) (zn z) 0 FU (by rw [np]; omega) (by rw [FU_s]; omega)
  refine ⟨M2, ?_, b2, LF_trans a3 b3⟩
  rw [F_L_endTurn, g70, tn0, nm_k, h.2.2.2.1, a1, bd_s]
  exact b1
