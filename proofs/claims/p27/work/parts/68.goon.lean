/-! the law's goOn and endTurn are the row's zgo and zend -/
/-- a place of the row looked at -/
def goE (x2 : Int32) (n16 : Nat) (l6_12 : Int32) (l7_13 : Int32) (M14 : MS) : Option MS := (gdb (inb l6_12 6) (nm (rA M14 222 (Int32.toNatClampNeg l6_12)) fun x17 => (bd (F_L_lives M14 x17) fun r19 => (if r19 = 0 then (nm (l7_13 + (1 : Int32)) fun x21 => (F_L_goOn_l16 x2 n16 l6_12 x21 M14)) else (gdb (inb (((8 : Int32) * x17) + (3 : Int32)) 48) (if ¬ (rA M14 220 (Int32.toNatClampNeg (((8 : Int32) * x17) + (3 : Int32)))) = 0 then (nm (l7_13 + (1 : Int32)) fun x24 => (F_L_goOn_l16 x2 n16 l6_12 x24 M14)) else (gdb (inb (4 : Int32) 7) (gdb (inb (4 : Int32) 7) (nm (wA M14 223 (Int32.toNatClampNeg (4 : Int32)) ((rA M14 223 (Int32.toNatClampNeg (4 : Int32))) + (1 : Int32))) fun M27 => (bd (F_L_forget M27 x17) fun M29 => (gdb (inb (((4 : Int32) * x17) + (3 : Int32)) 24) (nm (fun (s31 : Int32) => (gdb (inb ((8 : Int32) * x17) 48) (nm (fun (s34 : Int32) => (gdb (inb ((8 : Int32) * x17) 48) (nm (wA M29 220 (Int32.toNatClampNeg ((8 : Int32) * x17)) s34) fun M37 => (bd (F_L_lives M37 x17) fun r39 => (nm (bd (F_L_fade M37 x17) fun M42 => (F_L_goOn_l256 x2 l6_12 M42 (fun zz0 zz1 zz2 => F_L_goOn_l16 x2 n16 zz0 zz1 zz2) FU (0 : Int32) (0 : Int32))) fun j241_39 => (if r39 = 0 then j241_39 else (gdb (inb ((4 : Int32) * x17) 24) (if ¬ (rA M37 221 (Int32.toNatClampNeg ((4 : Int32) * x17))) = 0 then j241_39 else (gdb (inb (0 : Int32) 7) (nm (wA M37 223 (Int32.toNatClampNeg (0 : Int32)) x17) fun M59 => (nm (l7_13 + (1 : Int32)) fun x60 => (F_L_goOn_l16 x2 n16 l6_12 x60 M59)))))))))))) fun j214_34 => (if s31 ≤ (rA M29 220 (Int32.toNatClampNeg ((8 : Int32) * x17))) then (gdb (inb ((8 : Int32) * x17) 48) (j214_34 ((rA M29 220 (Int32.toNatClampNeg ((8 : Int32) * x17))) - s31))) else (j214_34 (0 : Int32)))))) fun j180_31 => (if (rA M29 221 (Int32.toNatClampNeg (((4 : Int32) * x17) + (3 : Int32)))) ≤ 0 then (j180_31 (0 : Int32)) else (j180_31 (2 : Int32)))))))))))))))
theorem goOn_s {x2 l6_5 l7_6 : Int32} {n16 : Nat} {M7 : MS} : F_L_goOn_l16 x2 (n16 + 1) l6_5 l7_6 M7 = (if x2 < l7_6 then some M7 else gdb (inb (0 : Int32) 7) (if 0 ≤ rA M7 223 (Int32.toNatClampNeg (0 : Int32)) then some M7 else if ¬ l6_5 + (1 : Int32) = x2 then goE x2 n16 (l6_5 + (1 : Int32)) l7_6 M7 else F_L_goOn_l45 x2 M7 (goE x2 n16) FU (0 : Int32) (0 : Int32))) := by
  rw [F_L_goOn_l16]
  rfl
theorem acc1 {z : Nat → Int32} {i : Nat} (h : zall z i = true) : zall z (i + 1) = decide (zo z i 2 = 0) := by rw [zall, h]; rfl
theorem acc0 {z : Nat → Int32} {i : Nat} (h : ¬ zall z i = true) : ¬ zall z (i + 1) = true := by rw [zall]; intro q; exact h (by rw [Bool.and_eq_true] at q; exact q.1)
/-- is there one who lives: behind a turn that ends at once -/
theorem some256 {M : MS} {z : Nat → Int32} {tv at_ : Int32} {K : Int32 → Int32 → MS → Option MS} (h : LRt M z tv) (hz : ZW z) (h6 : zn z ≤ 6) : ∀ d i k, i + d = zn z → d < k → F_L_goOn_l256 (nI (zn z)) at_ M K k (if zall z i = true then 0 else 1) (nI i) = if zall z (zn z) = true then some M else K at_ 1 M := by
  intro d
  induction d with
  | zero =>
    intro i k hi hk
    obtain ⟨k, rfl⟩ : ∃ q, k = q + 1 := ⟨k - 1, by omega⟩
    have e : i = zn z := by omega
    subst e
    rw [F_L_goOn_l256, if_pos (nI_le (Nat.le_refl _) (by omega))]
    by_cases c : zall z (zn z) = true
    · rw [if_pos c, if_neg (fun q => q rfl), if_pos c]
    · rw [if_neg c, if_pos (by decide), nm_k, if_neg c]
      rfl
  | succ d ih =>
    intro i k hi hk
    obtain ⟨k, rfl⟩ : ∃ q, k = q + 1 := ⟨k - 1, by omega⟩
    have h1 := ih (i + 1) k (by omega) (by omega)
    rw [F_L_goOn_l256, if_neg (nI_ge (by omega) (by omega))]
    by_cases c : zall z i = true
    · rw [acc1 c] at h1
      rw [if_pos c, if_neg (fun q => q rfl), lives_ok h hz h6 (by omega), bd_s]
      by_cases c2 : zo z i 2 = 0
      · rw [if_pos c2, if_pos rfl, nm_k, nI_1]
        rw [if_pos (by simpa using c2)] at h1
        exact h1
      · rw [if_neg c2, if_neg (by decide), nm_k, nI_1]
        rw [if_neg (by simpa using c2)] at h1
        exact h1
    · rw [if_neg (acc0 c)] at h1
      rw [if_neg c, if_pos (by decide), nm_k, nI_1]
      exact h1
theorem del95 {z : Nat → Int32} {tv : Int32} {J : Int32 → Int32 → MS → Option MS} (hz : Z0 z) (h6 : zn z ≤ 6) : ∀ d i k (M : MS), i + d = zn z → d < k → LRt M (zdel z i) tv → ∃ M', F_L_goOn_l95 (nI (zn z)) J k (nI i) M = J 0 0 M' ∧ LRt M' (zdel z (zn z)) tv ∧ LF M M' := by
  intro d
  induction d with
  | zero =>
    intro i k M hi hk h
    obtain ⟨k, rfl⟩ : ∃ q, k = q + 1 := ⟨k - 1, by omega⟩
    have e : i = zn z := by omega
    subst e
    rw [F_L_goOn_l95, if_pos (nI_le (Nat.le_refl _) (by omega))]
    exact ⟨M, rfl, h, LF_refl⟩
  | succ d ih =>
    intro i k M hi hk h
    obtain ⟨k, rfl⟩ : ∃ q, k = q + 1 := ⟨k - 1, by omega⟩
    have hn : zn (zdel z i) = zn z := (Z0_del hz).2.1
    have a1 : LRt (wA M 220 (8 * i + 3) 0) (zdel z (i + 1)) tv := LRt_a (f := i) (j := 3) (x := 0) h (Z0_del hz).1 (by rw [hn]; omega) (by decide)
    obtain ⟨M', g1, g2, g3⟩ := ih (i + 1) k _ (by omega) (by omega) a1
    refine ⟨M', ?_, g2, LF_trans (LF_A (by decide)) g3⟩
    rw [F_L_goOn_l95, if_neg (nI_ge (by omega) (by omega)), ix83, gdb_t (inb_nI (by omega) (by decide)), nI_clamp (by omega), nm_k, nm_k, nI_1]
    exact g1
/-- the row's end: a new round -/
theorem some45 {M : MS} {z : Nat → Int32} {J : Int32 → Int32 → MS → Option MS} (h : LRt M z (-1)) (hz : ZW z) (h6 : zn z ≤ 6) (ha : ¬ zall z (zn z) = true) : ∀ d i k, i + d = zn z → d < k → ∃ M', F_L_goOn_l45 (nI (zn z)) M J k (if zall z i = true then 0 else 1) (nI i) = J 0 0 M' ∧ LRt M' (zdel (upd z 1 (z 1 + 1)) (zn z)) (-1) ∧ LF M M' := by
  intro d
  induction d with
  | zero =>
    intro i k hi hk
    obtain ⟨k, rfl⟩ : ∃ q, k = q + 1 := ⟨k - 1, by omega⟩
    have e : i = zn z := by omega
    subst e
    have a1 : LRt (wA M 223 1 (z 1 + 1)) (upd z 1 (z 1 + 1)) (-1) := LRt_t (g := 1) h hz.1 (by decide) (by decide)
    have a2 := ZW_up (g := 1) (x := z 1 + 1) hz (by decide) (by decide)
    have hn : zn (upd z 1 (z 1 + 1)) = zn z := zn_up hz.1 (by decide) (by decide)
    obtain ⟨M', g1, g2, g3⟩ := del95 (J := J) a2.1 (by rw [hn]; exact h6) (zn z) 0 FU (wA M 223 1 (z 1 + 1)) (by rw [hn]; omega) (by rw [FU_s]; omega) a1
    rw [hn] at g1 g2
    refine ⟨M', ?_, g2, LF_trans (LF_A (by decide)) g3⟩
    rw [F_L_goOn_l45, if_pos (nI_le (Nat.le_refl _) (by omega)), if_neg ha, if_pos (by decide), g71, g71, tn1, nm_k, h.2.2.2.2 1 (by decide) (by decide)]
    exact g1
  | succ d ih =>
    intro i k hi hk
    obtain ⟨k, rfl⟩ : ∃ q, k = q + 1 := ⟨k - 1, by omega⟩
    obtain ⟨M', h1, h2, h3⟩ := ih (i + 1) k (by omega) (by omega)
    refine ⟨M', ?_, h2, h3⟩
    rw [F_L_goOn_l45, if_neg (nI_ge (by omega) (by omega))]
    by_cases c : zall z i = true
    · rw [acc1 c] at h1
      rw [if_pos c, if_neg (fun q => q rfl), lives_ok h hz h6 (by omega), bd_s]
      by_cases c2 : zo z i 2 = 0
      · rw [if_pos c2, if_pos rfl, nm_k, nI_1]
        rw [if_pos (by simpa using c2)] at h1
        exact h1
      · rw [if_neg c2, if_neg (by decide), nm_k, nI_1]
        rw [if_neg (by simpa using c2)] at h1
        exact h1
    · rw [if_neg (acc0 c)] at h1
      rw [if_neg c, if_pos (by decide), nm_k, nI_1]
      exact h1
theorem goE_no {M : MS} {z : Nat → Int32} {k p lk : Nat} (h : LRt M z (-1)) (hz : ZW z) (h6 : zn z ≤ 6) (hp : p < zn z) (hc : ¬ (¬ zo z (zrow z p) 2 = 0 ∧ zo z (zrow z p) 6 = 0)) : goE (nI (zn z)) k (nI p) (nI lk) M = F_L_goOn_l16 (nI (zn z)) k (nI p) (nI (lk + 1)) M := by
  obtain ⟨r1, r2⟩ := hz.1.2.2.1 p hp
  unfold goE
  rw [gdb_t (inb_nI (by omega) (by decide)), nI_clamp (by omega), nm_k, h.2.2.1 p hp, r1, lives_ok h hz h6 r2, bd_s]
  by_cases c2 : zo z (zrow z p) 2 = 0
  · rw [if_pos c2, if_pos rfl, nm_k, nI_1]
  · have c6 : ¬ zo z (zrow z p) 6 = 0 := fun q => hc ⟨c2, q⟩
    have e3 : rA M 220 (8 * zrow z p + 3) = zo z (zrow z p) 6 := h.1 _ r2 3 (by decide)
    rw [if_neg c2, if_neg (by decide), ix83, gdb_t (inb_nI (by omega) (by decide)), nI_clamp (by omega), e3, if_pos c6, nm_k, nI_1]
/-- a turn begins -/
theorem goE_yes {M : MS} {z : Nat → Int32} {k p lk : Nat} (h : LRt M z (-1)) (hz : ZW z) (h6 : zn z ≤ 6) (hp : p < zn z) (hc2 : ¬ zo z (zrow z p) 2 = 0) (hc6 : zo z (zrow z p) 6 = 0) :
    ((zo (zbeg z (zrow z p)) (zrow z p) 2 = 0 ∨ 0 < zo (zbeg z (zrow z p)) (zrow z p) 11) → ∃ M', LRt M' (zpass (zbeg z (zrow z p)) (zrow z p) 4) (-1) ∧ LF M M' ∧ goE (nI (zn z)) k (nI p) (nI lk) M = if zall (zpass (zbeg z (zrow z p)) (zrow z p) 4) (zn z) = true then some M' else F_L_goOn_l16 (nI (zn z)) k (nI p) 1 M') ∧
    (¬ (zo (zbeg z (zrow z p)) (zrow z p) 2 = 0 ∨ 0 < zo (zbeg z (zrow z p)) (zrow z p) 11) → ∃ M', LRt M' (zbeg z (zrow z p)) (nI (zrow z p)) ∧ LF M M' ∧ goE (nI (zn z)) k (nI p) (nI lk) M = F_L_goOn_l16 (nI (zn z)) k (nI p) (nI (lk + 1)) M') := by
  obtain ⟨r1, r2⟩ := hz.1.2.2.1 p hp
  obtain ⟨f, hfe⟩ : ∃ f, f = zrow z p := ⟨_, rfl⟩
  rw [← hfe] at hc2 hc6 r1 r2 ⊢
  obtain ⟨l, hl, e2⟩ := (hz.2.1 f r2).2.1
  obtain ⟨b3, hb3, e14⟩ := (hz.2.1 f r2).2.2.2.2.2.2.2 3 (by decide)
  have e14' : zo z f 14 = nI b3 := e14
  have hb := hz.1.2.1
  -- the turn counted
  have a1 : LRt M (upd z 2 (nI f)) (-1) := LRt_2 h hz.1
  have w1 := ZW_up (g := 2) (x := nI f) hz (by decide) (by decide)
  have n1 : zn (upd z 2 (nI f)) = zn z := zn_up hz.1 (by decide) (by decide)
  have a2 : LRt (wA M 223 4 (z 5 + 1)) (upd (upd z 2 (nI f)) 5 (z 5 + 1)) (-1) := LRt_t (g := 4) a1 w1.1 (by decide) (by decide)
  have w2 := ZW_up (g := 5) (x := z 5 + 1) w1 (by decide) (by decide)
  have n2 : zn (upd (upd z 2 (nI f)) 5 (z 5 + 1)) = zn z := (zn_up w1.1 (by decide) (by decide)).trans n1
  obtain ⟨M3, f1, f2, f3, f4⟩ := forget_ok (f := f) a2 w2.1 (by rw [n2]; exact h6) (by rw [n2]; exact r2)
  have w3 := ZW_lose (f := f) w2 (by rw [n2]; exact r2)
  have n3 : zn (zlose (upd (upd z 2 (nI f)) 5 (z 5 + 1)) f) = zn z := (Z0_lose w2.1).2.1.trans n2
  have nb : zn (zbeg z f) = zn z := (Z0_beg hz.1).2.1
  have wb := ZW_beg (f := f) hz r2
  -- the bleeding
  have a4 : ∃ v, LRt (wA M3 220 (8 * f) v) (zbeg z f) (-1) ∧ ∀ J : Int32 → Option MS, (nm (fun (s31 : Int32) => (gdb (inb ((8 : Int32) * nI f) 48) (nm J fun j214_34 => (if s31 ≤ (rA M3 220 (Int32.toNatClampNeg ((8 : Int32) * nI f))) then (gdb (inb ((8 : Int32) * nI f) 48) (j214_34 ((rA M3 220 (Int32.toNatClampNeg ((8 : Int32) * nI f))) - s31))) else (j214_34 (0 : Int32)))))) fun j180_31 => (if (rA M3 221 (Int32.toNatClampNeg (((4 : Int32) * nI f) + (3 : Int32)))) ≤ 0 then (j180_31 (0 : Int32)) else (j180_31 (2 : Int32)))) = J v := by
    have q14 : rA M3 221 (4 * f + 3) = nI b3 := by
      rw [f2.2.1 f (by rw [n3]; exact r2) 3 (by decide), zb1n (by decide) (by omega)]; exact e14
    have q2 : rA M3 220 (8 * f) = nI l := by
      have := f2.1 f (by rw [n3]; exact r2) 0 (by decide)
      rw [zb1n (aw_lt (by decide)) (by decide)] at this
      exact this.trans e2
    have o2 : zo (zlose (upd (upd z 2 (nI f)) 5 (z 5 + 1)) f) f 2 = nI l := by rw [zb1n (by decide) (by omega)]; exact e2
    by_cases c : b3 = 0
    · refine ⟨nI l, ?_, fun J => ?_⟩
      · have a5 := LRt_a (f := f) (j := 0) (x := nI l) f2 w3.1 (by rw [n3]; exact r2) (by decide)
        have e5 : zl (zlose (upd (upd z 2 (nI f)) 5 (z 5 + 1)) f) f (aw 0) (nI l) = zbeg z f := by
          unfold zbeg
          rw [if_neg (by rw [e14', c]; decide), ← o2]
          exact zl_same
        rw [e5] at a5
        exact a5
      · rw [nm_k, ix43, nI_clamp (by omega), q14, c, if_pos (by decide)]
        try dsimp only
        rw [ix8, gdb_t (inb_nI (by omega) (by decide)), nm_k, nI_clamp (by omega), q2, if_pos (nI_pos' (by omega)), gdb_t (inb_nI (by omega) (by decide)), Int32.sub_zero]
    · have c3 : 0 < zo z f 14 := by rw [e14']; exact nI_lt (a := 0) (by omega) (by omega)
      refine ⟨if 2 ≤ zo z f 2 then zo z f 2 - 2 else 0, ?_, fun J => ?_⟩
      · have a5 := LRt_a (f := f) (j := 0) (x := if 2 ≤ zo z f 2 then zo z f 2 - 2 else 0) f2 w3.1 (by rw [n3]; exact r2) (by decide)
        have e5 : zl (zlose (upd (upd z 2 (nI f)) 5 (z 5 + 1)) f) f (aw 0) (if 2 ≤ zo z f 2 then zo z f 2 - 2 else 0) = zbeg z f := by
          unfold zbeg
          rw [if_pos c3]
          rfl
        rw [e5] at a5
        exact a5
      · rw [nm_k, ix43, nI_clamp (by omega), q14, if_neg (nI_nle (by omega) (by omega))]
        try dsimp only
        rw [ix8, gdb_t (inb_nI (by omega) (by decide)), nm_k, nI_clamp (by omega), q2, e2]
        by_cases c4 : (2 : Int32) ≤ nI l
        · rw [if_pos c4, gdb_t (inb_nI (by omega) (by decide)), if_pos c4]
        · rw [if_neg c4, if_neg c4]
  obtain ⟨v, a5, a6⟩ := a4
  have hE : ∀ lk : Nat, goE (nI (zn z)) k (nI p) (nI lk) M = (gdb (inb ((8 : Int32) * nI f) 48) (nm (wA M3 220 (Int32.toNatClampNeg ((8 : Int32) * nI f)) v) fun M37 => (bd (F_L_lives M37 (nI f)) fun r39 => (nm (bd (F_L_fade M37 (nI f)) fun M42 => (F_L_goOn_l256 (nI (zn z)) (nI p) M42 (fun zz0 zz1 zz2 => F_L_goOn_l16 (nI (zn z)) k zz0 zz1 zz2) FU (0 : Int32) (0 : Int32))) fun j241_39 => (if r39 = 0 then j241_39 else (gdb (inb ((4 : Int32) * nI f) 24) (if ¬ (rA M37 221 (Int32.toNatClampNeg ((4 : Int32) * nI f))) = 0 then j241_39 else (gdb (inb (0 : Int32) 7) (nm (wA M37 223 (Int32.toNatClampNeg (0 : Int32)) (nI f)) fun M59 => (nm (nI lk + (1 : Int32)) fun x60 => (F_L_goOn_l16 (nI (zn z)) k (nI p) x60 M59))))))))))) := by
    intro lk
    have e3 : rA M 220 (8 * f + 3) = zo z f 6 := h.1 _ r2 3 (by decide)
    unfold goE
    rw [gdb_t (inb_nI (by omega) (by decide)), nI_clamp (by omega), nm_k, h.2.2.1 p hp, r1, lives_ok h hz h6 r2, bd_s, if_neg hc2, if_neg (by decide), ix83, gdb_t (inb_nI (by omega) (by decide)), nI_clamp (by omega), e3, if_neg (fun q => q hc6), g74, g74, tn4, nm_k, h.2.2.2.2 4 (by decide) (by decide), show z (tw 4) = z 5 from rfl, f1, bd_s, ix43, gdb_t (inb_nI (by omega) (by decide)), ← ix43]
    exact a6 (fun s34 => (gdb (inb ((8 : Int32) * nI f) 48) (nm (wA M3 220 (Int32.toNatClampNeg ((8 : Int32) * nI f)) s34) fun M37 => (bd (F_L_lives M37 (nI f)) fun r39 => (nm (bd (F_L_fade M37 (nI f)) fun M42 => (F_L_goOn_l256 (nI (zn z)) (nI p) M42 (fun zz0 zz1 zz2 => F_L_goOn_l16 (nI (zn z)) k zz0 zz1 zz2) FU (0 : Int32) (0 : Int32))) fun j241_39 => (if r39 = 0 then j241_39 else (gdb (inb ((4 : Int32) * nI f) 24) (if ¬ (rA M37 221 (Int32.toNatClampNeg ((4 : Int32) * nI f))) = 0 then j241_39 else (gdb (inb (0 : Int32) 7) (nm (wA M37 223 (Int32.toNatClampNeg (0 : Int32)) (nI f)) fun M59 => (nm (nI lk + (1 : Int32)) fun x60 => (F_L_goOn_l16 (nI (zn z)) k (nI p) x60 M59))))))))))))
  have lf5 : LF M (wA M3 220 (8 * f) v) := LF_trans (LF_trans (LF_A (by decide)) f3) (LF_A (by decide))
  obtain ⟨x0, hx0, e11⟩ := (wb.2.1 f (by rw [nb]; exact r2)).2.2.2.2.2.2.2 0 (by decide)
  have e11' : zo (zbeg z f) f 11 = nI x0 := e11
  have r11 : rA (wA M3 220 (8 * f) v) 221 (4 * f) = nI x0 := (a5.2.1 f (by rw [nb]; exact r2) 0 (by decide)).trans e11
  obtain ⟨M6, q1, q2, q3, q4⟩ := fade_ok (f := f) a5 wb (by rw [nb]; exact h6) (by rw [nb]; exact r2)
  have wp := ZW_pass (f := f) wb (by rw [nb]; exact r2) 4 (by decide)
  have np : zn (zpass (zbeg z f) f 4) = zn z := (Z0_pass wb.1).2.1.trans nb
  have hs := some256 (at_ := nI p) (K := fun zz0 zz1 zz2 => F_L_goOn_l16 (nI (zn z)) k zz0 zz1 zz2) q2 wp (by rw [np]; exact h6) (zn z) 0 FU (by rw [np]; omega) (by rw [FU_s]; omega)
  rw [np] at hs
  have hs' : F_L_goOn_l256 (nI (zn z)) (nI p) M6 (fun zz0 zz1 zz2 => F_L_goOn_l16 (nI (zn z)) k zz0 zz1 zz2) FU 0 0 = if zall (zpass (zbeg z f) f 4) (zn z) = true then some M6 else F_L_goOn_l16 (nI (zn z)) k (nI p) 1 M6 := hs
  refine ⟨fun hc => ⟨M6, q2, LF_trans lf5 q3, ?_⟩, fun hc => ?_⟩
  · rw [hE, ix8, gdb_t (inb_nI (by omega) (by decide)), nm_k, nI_clamp (by omega), lives_ok a5 wb (by rw [nb]; exact h6) (by rw [nb]; exact r2), bd_s, nm_k, q1, bd_s, hs']
    by_cases c2 : zo (zbeg z f) f 2 = 0
    · rw [if_pos c2, if_pos rfl]
    · have c11 : ¬ nI x0 = 0 := fun q => by
        rcases hc with h9 | h9
        · exact c2 h9
        · rw [e11', q] at h9; exact absurd h9 (by decide)
      rw [if_neg c2, if_neg (by decide), ix4, gdb_t (inb_nI (by omega) (by decide)), nI_clamp (by omega), r11, if_pos c11]
  · have c2 : ¬ zo (zbeg z f) f 2 = 0 := fun q => hc (Or.inl q)
    have c11 : nI x0 = 0 := by
      by_cases q : x0 = 0
      · rw [q]; rfl
      · exact absurd (Or.inr (by rw [e11']; exact nI_lt (a := 0) (by omega) (by omega))) hc
    refine ⟨wA (wA M3 220 (8 * f) v) 223 0 (nI f), LRt_0 a5, LF_trans lf5 (LF_A (by decide)), ?_⟩
    rw [hE, ix8, gdb_t (inb_nI (by omega) (by decide)), nm_k, nI_clamp (by omega), lives_ok a5 wb (by rw [nb]; exact h6) (by rw [nb]; exact r2), bd_s, nm_k, if_neg c2, if_neg (by decide), ix4, gdb_t (inb_nI (by omega) (by decide)), nI_clamp (by omega), r11, if_neg (fun q => q c11), g70, tn0, nm_k, nm_k, nI_1]
