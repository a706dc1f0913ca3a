/-! who comes in -/
def CQ (z : Nat → Int32) : Prop :=
  (z 1 = 0 ∧ z 2 = -1 ∧ z 3 = 0 ∧ z 4 = 0 ∧ z 5 = 0) ∧ (∀ f, f < zn z → ¬ zo z f 2 = 0 ∧ zo z f 6 = 0 ∧ (∀ w, 7 ≤ w → w ≤ 10 → zo z f w = -1) ∧ (∀ w, 11 ≤ w → w < 15 → zo z f w = 0)) ∧ (∀ j, j < zn z → z (6 + j) = nI (br (zI z) (zn z) j))
theorem br_cg {I J : Nat → Int32} : ∀ m, (∀ f, f < m → I f = J f) → br I m = br J m
  | 0, _ => rfl
  | m + 1, h => by
    have e := br_cg (I := I) (J := J) m (fun f hf => h f (by omega))
    obtain ⟨b1, _, _⟩ := br_ok (I := J) m
    rw [br, br, e, h m (by omega), fin_same (a := fun p => I (br J m p)) (b := fun p => J (br J m p)) m 0 (fun i _ hi => h _ (by have := b1 i (by omega); omega))]
theorem CQ_come {z : Nat → Int32} {s i fo : Int32} {l : Nat} (hz : Z0 z) (h : CQ z) (h10 : zn z < 10) (hl1 : 1 ≤ l) (hl : l ≤ 99) : CQ (zcome z s i (nI l) fo) := by
  obtain ⟨⟨a1, a2, a3, a4, a5⟩, b, c⟩ := h
  obtain ⟨e0, e1⟩ := zcome_0 (s := s) (i := i) (l := nI l) (fo := fo) hz h10
  have lo : ∀ j, 1 ≤ j → j < 6 → zcome z s i (nI l) fo j = z j := fun j h1 h6 => by rw [zcome_else h10 (Or.inl ⟨h1, h6⟩), znew_lo (by omega)]
  refine ⟨⟨by rw [lo 1 (by decide) (by decide), a1], by rw [lo 2 (by decide) (by decide), a2], by rw [lo 3 (by decide) (by decide), a3], by rw [lo 4 (by decide) (by decide), a4], by rw [lo 5 (by decide) (by decide), a5]⟩, fun f hf => ?_, fun j hj => ?_⟩
  · rw [e1] at hf
    by_cases q : f = zn z
    · refine ⟨?_, ?_, fun w h1 h2 => ?_, fun w h1 h2 => ?_⟩
      · rw [zcome_o h10 (by decide), if_pos q]
        show ¬ nI l = 0
        exact nI_ne0 (by omega) (by omega)
      · rw [zcome_o h10 (by decide), if_pos q]
        rfl
      · rw [zcome_o h10 (by omega), if_pos q]
        rcases (show w = 7 ∨ w = 8 ∨ w = 9 ∨ w = 10 by omega) with rfl | rfl | rfl | rfl <;> rfl
      · rw [zcome_o h10 (by omega), if_pos q]
        rcases (show w = 11 ∨ w = 12 ∨ w = 13 ∨ w = 14 by omega) with rfl | rfl | rfl | rfl <;> rfl
    · obtain ⟨b1, b2, b3, b4⟩ := b f (by omega)
      refine ⟨?_, ?_, fun w h1 h2 => ?_, fun w h1 h2 => ?_⟩
      · rw [zcome_o h10 (by decide), if_neg q]; exact b1
      · rw [zcome_o h10 (by decide), if_neg q]; exact b2
      · rw [zcome_o h10 (by omega), if_neg q]; exact b3 w h1 h2
      · rw [zcome_o h10 (by omega), if_neg q]; exact b4 w h1 h2
  · rw [e1] at hj ⊢
    have hI : ∀ f, f < zn z → zI (zcome z s i (nI l) fo) f = zI z f := fun f hf => by
      show zo (zcome z s i (nI l) fo) f 1 = zo z f 1
      rw [zcome_o h10 (by decide), if_neg (by omega)]
    have hIn : zI (zcome z s i (nI l) fo) (zn z) = i := by
      show zo (zcome z s i (nI l) fo) (zn z) 1 = i
      rw [zcome_o h10 (by decide), if_pos rfl]
      rfl
    have hrow : ∀ p, p < zn z → zrow z p = br (zI z) (zn z) p := fun p hp => by
      have := (br_ok (I := zI z) (zn z)).1 p hp
      unfold zrow
      rw [c p hp, nI_clamp (by omega)]
    have hcat : fin (fun p => zI (zcome z s i (nI l) fo) (br (zI z) (zn z) p)) i (zn z) 0 = zcat z i := by
      unfold zcat
      refine fin_same _ _ (fun p _ hp => ?_)
      show zI (zcome z s i (nI l) fo) (br (zI z) (zn z) p) = zo z (zrow z p) 1
      rw [hI _ ((br_ok (I := zI z) (zn z)).1 p (by omega)), hrow p (by omega)]
      rfl
    have hle := zcat_le (z := z) (i := i)
    rw [br, br_cg (zn z) hI, hIn, hcat, zcome_row (by omega) h10]
    unfold insN
    by_cases q : j = zcat z i
    · rw [if_pos q, if_pos q]
    · rw [if_neg q, if_neg q]
      by_cases q2 : j < zcat z i
      · rw [if_pos q2, if_neg (by omega), c j (by omega)]
      · rw [if_neg q2, if_pos (by omega), c (j - 1) (by omega)]
theorem nm_pick {β : Type} {c : Prop} [Decidable c] {K : Int32 → Option β} {a b : Int32} : (nm K fun j => if c then j a else j b) = K (if c then a else b) := by
  rw [nm_k]
  by_cases q : c
  · rw [if_pos q, if_pos q]
  · rw [if_neg q, if_neg q]
theorem tl_lo {z : Nat → Int32} {f w : Nat} (h : w < 6) : ztold z f w = zo z f w := by unfold ztold; rw [if_pos h]
set_option maxHeartbeats 8000000 in
theorem come_l {xs : Nat → Int32} {L n : Nat} (hL : L ≤ 260) (h6 : n ≤ 6) : ∀ d j k (M : MS) (z : Nat → Int32), j + d = n → d < k → SJ M z → CQ z → zn z = j → ∃ M' z', F_L_come_l3 1 (nI n) xs L k (nI j) M = some (1, M') ∧ SJ M' z' ∧ zn z' = n ∧ CQ z' ∧ MPart M M' := by
  intro d
  induction d with
  | zero =>
    intro j k M z hj hk hS hQ hn
    obtain ⟨k, rfl⟩ : ∃ q, k = q + 1 := ⟨k - 1, by omega⟩
    rw [F_L_come_l3, if_pos (nI_le (by omega) (by omega))]
    exact ⟨M, z, rfl, hS, by omega, hQ, MPart_refl⟩
  | succ d ih =>
    intro j k M z hj hk hS hQ hn
    obtain ⟨k, rfl⟩ : ∃ q, k = q + 1 := ⟨k - 1, by omega⟩
    subst hn
    obtain ⟨v, hv⟩ := cell_ok (xs := xs) (L := L) (j := 1 + zn z) hL (by omega)
    have hv' : F_L_cell xs L ((1 : Int32) + nI (zn z)) = some v := by rw [nI_lit 1, nI_add]; exact hv
    have low2 : ∀ (M : MS) (v : Int32), F_L_low M v 2 = some (nI (lo v 2)) := fun M v => low_ok (by decide) (by decide)
    have low3 : ∀ (M : MS) (v : Int32), F_L_low M v 3 = some (nI (lo v 3)) := fun M v => low_ok (by decide) (by decide)
    have low6 : ∀ (M : MS) (v : Int32), F_L_low M v 6 = some (nI (lo v 6)) := fun M v => low_ok (by decide) (by decide)
    have low41 : ∀ (M : MS) (v : Int32), F_L_low M v 41 = some (nI (lo v 41)) := fun M v => low_ok (by decide) (by decide)
    have low20 : ∀ (M : MS) (v : Int32), F_L_low M v 20 = some (nI (lo v 20)) := fun M v => low_ok (by decide) (by decide)
    have low99 : ∀ (M : MS) (v : Int32), F_L_low M v 99 = some (nI (lo v 99)) := fun M v => low_ok (by decide) (by decide)
    -- a fighter with these numbers
    have go : ∀ s i l f : Nat, s ≤ 1 → i ≤ 40 → l < 99 → f < 20 → ∃ M' z', (nm ((1 : Int32) + nI l) fun x20 => (nm ((1 : Int32) + nI f) fun x27 => (bd0 (F_X4_come M (nI s) (nI i) x20 x27) fun r30 M29 => (nm (fun (s31 : Int32) (M32 : MS) => (if ¬ s31 = 0 then (nm (nI (zn z) + (1 : Int32)) fun x35 => (F_L_come_l3 1 (nI n) xs L k x35 M32)) else (some ((0 : Int32), M32)))) fun j248_32 => (if ¬ r30 = nI (zn z) then (j248_32 (0 : Int32) M29) else (bd0 (F_X4_fighter M29 (nI (zn z)) (0 : Int32)) fun r39 M38 => (if ¬ r39 = nI s then (j248_32 (0 : Int32) M38) else (bd0 (F_X4_fighter M38 (nI (zn z)) (1 : Int32)) fun r43 M42 => (if ¬ r43 = nI i then (j248_32 (0 : Int32) M42) else (bd0 (F_X4_fighter M42 (nI (zn z)) (2 : Int32)) fun r47 M46 => (if ¬ r47 = x20 then (j248_32 (0 : Int32) M46) else (bd0 (F_X4_fighter M46 (nI (zn z)) (3 : Int32)) fun r51 M50 => (if ¬ r51 = x20 then (j248_32 (0 : Int32) M50) else (bd0 (F_X4_fighter M50 (nI (zn z)) (4 : Int32)) fun r55 M54 => (if ¬ r55 = x27 then (j248_32 (0 : Int32) M54) else (bd0 (F_X4_fighter M54 (nI (zn z)) (5 : Int32)) fun r59 M58 => (if ¬ r59 = ((9 : Int32) * nI s) then (j248_32 (0 : Int32) M58) else (bd0 (F_X4_fighter M58 (nI (zn z)) (7 : Int32)) fun r63 M62 => (if ¬ r63 = 0 then (j248_32 (0 : Int32) M62) else (bd0 (F_X4_readied M62 (nI (zn z)) (0 : Int32)) fun r67 M66 => (if ¬ r67 = (-1 : Int32) then (j248_32 (0 : Int32) M66) else (bd0 (F_X4_count M66 (0 : Int32)) fun r71 M70 => (if ¬ r71 = (nI (zn z) + (1 : Int32)) then (j248_32 (0 : Int32) M70) else (j248_32 (1 : Int32) M70)))))))))))))))))))))))) = some (1, M') ∧ SJ M' z' ∧ zn z' = n ∧ CQ z' ∧ MPart M M' := by
      intro s i l f hs hi hl hf
      have h10 : zn z < 10 := by omega
      have hz0 := (SJ_z hS).1.1
      obtain ⟨M1, q1, q2, q3⟩ := q_come (s := s) (i := i) (l := 1 + l) (f := 1 + f) hS h10 hs hi (by omega) (by omega) (by omega) (by omega)
      obtain ⟨e0, e1⟩ := zcome_0 (s := nI s) (i := nI i) (l := nI (1 + l)) (fo := nI (1 + f)) hz0 h10
      have hQ1 := CQ_come (s := nI s) (i := nI i) (fo := nI (1 + f)) (l := 1 + l) hz0 hQ h10 (by omega) (by omega)
      obtain ⟨z1, hz1⟩ : ∃ z1, z1 = zcome z (nI s) (nI i) (nI (1 + l)) (nI (1 + f)) := ⟨_, rfl⟩
      have ho : ∀ w, w < 17 → zo z1 (zn z) w = lk w 0 (mlst (nI s) (nI i) (nI (1 + l)) (nI (1 + f))) := fun w hw => by rw [hz1, zcome_o h10 hw, if_pos rfl]
      rw [← hz1] at q2 e0 e1 hQ1
      have hg : zn z < zn z1 := by omega
      have qf : ∀ w : Nat, w ≤ 13 → F_X4_fighter M1 (nI (zn z)) (nI w) = some (0, ztold z1 (zn z) w, M1) := fun w hw => q_fighter q2 hg hw
      have t0 : F_X4_fighter M1 (nI (zn z)) 0 = some (0, nI s, M1) := by rw [nI_lit 0, qf 0 (by decide), tl_lo (by decide), ho 0 (by decide)]; rfl
      have t1 : F_X4_fighter M1 (nI (zn z)) 1 = some (0, nI i, M1) := by rw [nI_lit 1, qf 1 (by decide), tl_lo (by decide), ho 1 (by decide)]; rfl
      have t2 : F_X4_fighter M1 (nI (zn z)) 2 = some (0, nI (1 + l), M1) := by rw [nI_lit 2, qf 2 (by decide), tl_lo (by decide), ho 2 (by decide)]; rfl
      have t3 : F_X4_fighter M1 (nI (zn z)) 3 = some (0, nI (1 + l), M1) := by rw [nI_lit 3, qf 3 (by decide), tl_lo (by decide), ho 3 (by decide)]; rfl
      have t4 : F_X4_fighter M1 (nI (zn z)) 4 = some (0, nI (1 + f), M1) := by rw [nI_lit 4, qf 4 (by decide), tl_lo (by decide), ho 4 (by decide)]; rfl
      have t5 : F_X4_fighter M1 (nI (zn z)) 5 = some (0, 9 * nI s, M1) := by
        rw [nI_lit 5, qf 5 (by decide), tl_lo (by decide), ho 5 (by decide)]
        show some (0, (if nI s = 0 then 0 else 9), M1) = _
        rcases (show s = 0 ∨ s = 1 by omega) with q | q <;> rw [q] <;> rfl
      have t7 : F_X4_fighter M1 (nI (zn z)) 7 = some (0, 0, M1) := by
        obtain ⟨b1, b2, b3, b4⟩ := hQ1.2.1 _ hg
        rw [nI_lit 7, qf 7 (by decide)]
        show some (0, zstat z1 (zn z), M1) = _
        unfold zstat
        rw [if_neg b1, b2, if_neg (by decide), b3 7 (by decide) (by decide), if_pos rfl]
      have tr : F_X4_readied M1 (nI (zn z)) 0 = some (0, -1, M1) := by
        rw [nI_lit 0, q_readied q2 hg (by decide), (hQ1.2.1 _ hg).2.2.1 (7 + 0) (by decide) (by decide)]
      have tc : F_X4_count M1 0 = some (0, nI (zn z + 1), M1) := by
        rw [nI_lit 0, q_count q2 (by decide)]
        show some (0, z1 0, M1) = _
        rw [e0]
      obtain ⟨M2, z2, r1, r2, r3, r4, r5⟩ := ih (zn z + 1) k M1 z1 (by omega) (by omega) q2 hQ1 e1
      refine ⟨M2, z2, ?_, r2, r3, r4, MPart_trans q3 r5⟩
      rw [nm_k, nm_k, nI_lit 1, nI_add, nI_add, q1, bd0_s, nm_k, if_neg (fun q => q rfl), t0, bd0_s, if_neg (fun q => q rfl)]
      rw [← nI_lit 1, t1, bd0_s, if_neg (fun q => q rfl), t2, bd0_s, if_neg (fun q => q rfl), t3, bd0_s, if_neg (fun q => q rfl), t4, bd0_s, if_neg (fun q => q rfl), t5, bd0_s, if_neg (fun q => q rfl), t7, bd0_s, if_neg (fun q => q rfl), tr, bd0_s, if_neg (fun q => q rfl), tc, bd0_s, nI_1, if_neg (fun q => q rfl)]
      try dsimp only
      rw [if_pos (by decide), nm_k]
      exact r1
    rw [F_L_come_l3, if_neg (nI_ge (by omega) (by omega)), hv', bd_s, low2, bd_s, low2, bd_s, nm_pick]
    have hs := lo_lt (v := v) (n := 2) (by decide)
    -- the numbers, as the cells say
    have hi : ∀ J : Int32 → Option (Int32 × MS), ∃ i, i ≤ 40 ∧ (bd (F_L_low M (v >>> ((1 : Int32) &&& 31)) (if ¬ nI (lo (v >>> ((7 : Int32) &&& 31)) 2) = 0 then 6 else 41)) J) = J (nI i) := by
      intro J
      by_cases c : nI (lo (v >>> ((7 : Int32) &&& 31)) 2) = 0
      · rw [if_neg (fun q => q c), low41, bd_s]
        exact ⟨_, by have := lo_lt (v := v >>> ((1 : Int32) &&& 31)) (n := 41) (by decide); omega, rfl⟩
      · rw [if_pos c, low6, bd_s]
        exact ⟨_, by have := lo_lt (v := v >>> ((1 : Int32) &&& 31)) (n := 6) (by decide); omega, rfl⟩
    have hl : ∀ J : Int32 → Option (Int32 × MS), ∃ l, l < 99 ∧ (bd (F_L_low M (v >>> ((8 : Int32) &&& 31)) (if ¬ nI (lo (v >>> ((15 : Int32) &&& 31)) 3) = 0 then 20 else 99)) J) = J (nI l) := by
      intro J
      by_cases c : nI (lo (v >>> ((15 : Int32) &&& 31)) 3) = 0
      · rw [if_neg (fun q => q c), low99, bd_s]
        exact ⟨_, lo_lt (by decide), rfl⟩
      · rw [if_pos c, low20, bd_s]
        exact ⟨_, by have := lo_lt (v := v >>> ((8 : Int32) &&& 31)) (n := 20) (by decide); omega, rfl⟩
    have hf : ∀ J : Int32 → Option (Int32 × MS), ∃ f, f < 20 ∧ (bd (F_L_low M (v >>> ((17 : Int32) &&& 31)) (if ¬ nI (lo (v >>> ((22 : Int32) &&& 31)) 2) = 0 then 6 else 20)) J) = J (nI f) := by
      intro J
      by_cases c : nI (lo (v >>> ((22 : Int32) &&& 31)) 2) = 0
      · rw [if_neg (fun q => q c), low20, bd_s]
        exact ⟨_, lo_lt (by decide), rfl⟩
      · rw [if_pos c, low6, bd_s]
        exact ⟨_, by have := lo_lt (v := v >>> ((17 : Int32) &&& 31)) (n := 6) (by decide); omega, rfl⟩
    obtain ⟨i, hi1, hi2⟩ := hi _
    rw [hi2, low3, bd_s, nm_pick]
    obtain ⟨l, hl1, hl2⟩ := hl _
    rw [hl2, nm_k, low2, bd_s, nm_pick]
    obtain ⟨f, hf1, hf2⟩ := hf _
    rw [hf2]
    exact go (lo v 2) i l f (by omega) hi1 hl1 hf1
theorem come_ok {xs : Nat → Int32} {L n : Nat} {M : MS} {z : Nat → Int32} (hL : L ≤ 260) (h6 : n ≤ 6) (hS : SJ M z) (hQ : CQ z) (hn : zn z = 0) : ∃ M' z', F_L_come xs L M 1 (nI n) = some (1, M') ∧ SJ M' z' ∧ zn z' = n ∧ CQ z' ∧ MPart M M' := come_l hL h6 n 0 8 M z (by omega) (by omega) hS hQ hn
