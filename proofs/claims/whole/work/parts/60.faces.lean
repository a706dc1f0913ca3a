/-! the calls: what a call leaves on both sides -/
def INV (M : MS) : Prop := ∃ (z : Nat → Int32) (m : Nat) (sv : Nat → Nat → Int32) (t : Nat) (b : Nat → Int32), PI z m sv t ∧ BV b t ∧ CI M z m sv t b ∧ MI M z m sv t b
def StQ (C : Option (Int32 × MS)) (F : MS → Option (Int32 × MS)) : Prop := ∃ k M1 r M2, C = some (k, M1) ∧ F M1 = some (r, M2) ∧ rF M2 80 220 = k ∧ (k = 0 → rO M2 = Int32.toInt64 r) ∧ INV M2
def COK (C : MS → Option (Nat × Int32 × MS)) (z : Nat → Int32) (m : Nat) (sv : Nat → Nat → Int32) (t : Nat) (b : Nat → Int32) (kc : Nat) (r : Int32) (z' : Nat → Int32) (m' : Nat) (sv' : Nat → Nat → Int32) (t' : Nat) (b' : Nat → Int32) : Prop := ∀ M, CI M z m sv t b → ∃ M1, C M = some (kc, r, M1) ∧ CI M1 z' m' sv' t' b' ∧ MPart M M1
def MOK (F : MS → Option (Int32 × MS)) (z : Nat → Int32) (m : Nat) (sv : Nat → Nat → Int32) (t : Nat) (b : Nat → Int32) (k : Nat) (r : Int32) (z' : Nat → Int32) (m' : Nat) (sv' : Nat → Nat → Int32) (t' : Nat) (b' : Nat → Int32) : Prop := ∀ M, MI M z m sv t b → ∃ M2, F M = some (r, M2) ∧ MI M2 z' m' sv' t' b' ∧ CPart M M2 ∧ rF M2 80 220 = nI k
def GOA (C : MS → Option (Nat × Int32 × MS)) (hs : List (Nat × Int32)) (F : MS → Option (Int32 × MS)) (z : Nat → Int32) (m : Nat) (sv : Nat → Nat → Int32) (t : Nat) (b : Nat → Int32) : Prop := ∃ kc k rc r z' m' sv' t' b', COK C z m sv t b kc rc z' m' sv' t' b' ∧ MOK F z m sv t b k r z' m' sv' t' b' ∧ PI z' m' sv' t' ∧ BV b' t' ∧ ((kc = 0 ∧ k = 0 ∧ rc = r) ∨ (kc ≠ 0 ∧ hsel hs kc = some (nI k) ∧ ¬ nI k = 0))
def SOK (C : MS → Option (Nat × Int32 × MS)) (hs : List (Nat × Int32)) (F : MS → Option (Int32 × MS)) : Prop := ∀ M, INV M → StQ (bh (C M) hs) F
theorem CI_wO {M : MS} {x : Int64} {z : Nat → Int32} {m t : Nat} {sv : Nat → Nat → Int32} {b : Nat → Int32} (h : CI M z m sv t b) : CI (wO M x) z m sv t b := h
theorem MI_wO {M : MS} {x : Int64} {z : Nat → Int32} {m t : Nat} {sv : Nat → Nat → Int32} {b : Nat → Int32} (h : MI M z m sv t b) : MI (wO M x) z m sv t b := h
theorem MI_80 {M : MS} {x : Int32} {c : Nat} {z : Nat → Int32} {m t : Nat} {sv : Nat → Nat → Int32} {b : Nat → Int32} (hc : c ≠ 83 ∧ c ≠ 86) (h : MI M z m sv t b) : MI (wF M c 220 x) z m sv t b := by
  obtain ⟨a, b1, c1, d, e⟩ := h
  exact ⟨a, by rw [rF_wF, if_neg (by omega)]; exact b1, c1, by rw [rF_wF, if_neg (by omega)]; exact d, e⟩
theorem sok_of {C : MS → Option (Nat × Int32 × MS)} {hs : List (Nat × Int32)} {F : MS → Option (Int32 × MS)} (h : ∀ z m sv t b, PI z m sv t → BV b t → GOA C hs F z m sv t b) : SOK C hs F := by
  intro M hI
  obtain ⟨z, m, sv, t, b, hp, hb, hc, hm⟩ := hI
  obtain ⟨kc, k, rc, r, z', m', sv', t', b', h1, h2, hp', hb', hk⟩ := h z m sv t b hp hb
  obtain ⟨M1, g1, g2, g3⟩ := h1 M hc
  rcases hk with ⟨e1, e2, e3⟩ | ⟨e1, e2, e3⟩
  · subst e1 e2 e3
    obtain ⟨M2, k1, k2, k3, k4⟩ := h2 (wO M1 (Int32.toInt64 rc)) (MI_wO (MI_keep hm g3))
    refine ⟨0, _, rc, M2, ?_, k1, k4, fun _ => ?_, z', m', sv', t', b', hp', hb', CI_keep (CI_wO g2) hp' k3, k2⟩
    · rw [g1]; rfl
    · rw [k3.2.2.2]; rfl
  · obtain ⟨M2, k1, k2, k3, k4⟩ := h2 M1 (MI_keep hm g3)
    refine ⟨nI k, M1, r, M2, ?_, k1, k4, fun q => absurd q e3, z', m', sv', t', b', hp', hb', CI_keep g2 hp' k3, k2⟩
    rw [g1]
    show (if kc = 0 then some ((0 : Int32), wO M1 (Int32.toInt64 rc)) else match hsel hs kc with | none => none | some j => some (j, M1)) = _
    rw [if_neg e1, e2]
theorem go_thr {C : MS → Option (Nat × Int32 × MS)} {hs : List (Nat × Int32)} {F : MS → Option (Int32 × MS)} {z : Nat → Int32} {m : Nat} {sv : Nat → Nat → Int32} {t : Nat} {b : Nat → Int32} (kc k : Nat) (hp : PI z m sv t) (hb : BV b t) (hc : ∀ M, CI M z m sv t b → C M = some (kc, 0, M)) (hm : ∀ M, MI M z m sv t b → F M = some (0, wF M 80 220 (nI k))) (hk : kc ≠ 0) (h1 : hsel hs kc = some (nI k)) (h0 : ¬ nI k = 0) : GOA C hs F z m sv t b :=
  ⟨kc, k, 0, 0, z, m, sv, t, b, fun M h => ⟨M, hc M h, h, MPart_refl⟩, fun M h => ⟨_, hm M h, MI_80 (by decide) h, CPart_80, by rw [rF_self]⟩, hp, hb, Or.inr ⟨hk, h1, h0⟩⟩
theorem go_ok {C : MS → Option (Nat × Int32 × MS)} {hs : List (Nat × Int32)} {F : MS → Option (Int32 × MS)} {z : Nat → Int32} {m : Nat} {sv : Nat → Nat → Int32} {t : Nat} {b : Nat → Int32} {r : Int32} {z' : Nat → Int32} {m' : Nat} {sv' : Nat → Nat → Int32} {t' : Nat} {b' : Nat → Int32} (hc : COK C z m sv t b 0 r z' m' sv' t' b') (hm : MOK F z m sv t b 0 r z' m' sv' t' b') (hp' : PI z' m' sv' t') (hb' : BV b' t') : GOA C hs F z m sv t b :=
  ⟨0, 0, r, r, z', m', sv', t', b', hc, hm, hp', hb', Or.inl ⟨rfl, rfl, rfl⟩⟩
/-- a look: nothing is changed -/
theorem go_look {C : MS → Option (Nat × Int32 × MS)} {hs : List (Nat × Int32)} {F : MS → Option (Int32 × MS)} {z : Nat → Int32} {m : Nat} {sv : Nat → Nat → Int32} {t : Nat} {b : Nat → Int32} (r : Int32) (hp : PI z m sv t) (hb : BV b t) (hc : ∀ M, CI M z m sv t b → C M = some (0, r, M)) (hm : ∀ M, MI M z m sv t b → F M = some (r, wF M 80 220 0)) : GOA C hs F z m sv t b :=
  go_ok (fun M h => ⟨M, hc M h, h, MPart_refl⟩) (fun M h => ⟨_, hm M h, MI_80 (by decide) h, CPart_80, by rw [rF_self]; rfl⟩) hp hb
/-! conditions -/
def wi (a lo hi : Int32) : Bool := decide (¬ a < lo) && decide (¬ hi < a)
theorem isW_t {M : MS} {a lo hi : Int32} (h : wi a lo hi = true) : F_X4_isWithin M a lo hi = some 1 := by
  unfold wi at h
  rw [Bool.and_eq_true, decide_eq_true_eq, decide_eq_true_eq] at h
  rw [F_X4_isWithin, if_neg h.1, if_neg h.2]
theorem isW_f {M : MS} {a lo hi : Int32} (h : ¬ wi a lo hi = true) : F_X4_isWithin M a lo hi = some 0 := by
  unfold wi at h
  rw [Bool.and_eq_true, decide_eq_true_eq, decide_eq_true_eq] at h
  rw [F_X4_isWithin]
  by_cases q : a < lo
  · rw [if_pos q]
  · rw [if_neg q, if_pos (Classical.byContradiction (fun r => h ⟨q, r⟩))]
theorem in_t {M : MS} {a lo hi : Int32} (h : wi a lo hi = true) : F_X5_in M a lo hi = some 1 := by
  unfold wi at h
  rw [Bool.and_eq_true, decide_eq_true_eq, decide_eq_true_eq] at h
  rw [F_X5_in, if_neg h.1, if_neg h.2]
theorem in_f {M : MS} {a lo hi : Int32} (h : ¬ wi a lo hi = true) : F_X5_in M a lo hi = some 0 := by
  unfold wi at h
  rw [Bool.and_eq_true, decide_eq_true_eq, decide_eq_true_eq] at h
  rw [F_X5_in]
  by_cases q : a < lo
  · rw [if_pos q]
  · rw [if_neg q, if_pos (Classical.byContradiction (fun r => h ⟨q, r⟩))]
theorem wi_n {a : Int32} {l h : Nat} (hw : wi a (nI l) (nI h) = true) (hl : l ≤ h) (hh : h < 2 ^ 31) : ∃ n, l ≤ n ∧ n ≤ h ∧ a = nI n := by
  unfold wi at hw
  rw [Bool.and_eq_true, decide_eq_true_eq, decide_eq_true_eq] at hw
  have h0 : ¬ a < 0 := fun q => hw.1 (by
    have q2 := Int32.lt_iff_toInt_lt.mp q
    have z0 : (0 : Int32).toInt = 0 := by decide
    rw [Int32.lt_iff_toInt_lt, nI_toInt (by omega)]
    omega)
  obtain ⟨n, hn, rfl⟩ := nI_of h0
  exact ⟨n, Nat.le_of_not_lt (fun q => hw.1 (nI_lt q (by omega))), Nat.le_of_not_lt (fun q => hw.2 (nI_lt q hn)), rfl⟩
def isf (z : Nat → Int32) (a : Int32) : Bool := decide (¬ a < 0) && decide (¬ z 0 ≤ a)
theorem isf_n {z : Nat → Int32} {a : Int32} (hz : Z0 z) (h : isf z a = true) : ∃ g, g < zn z ∧ a = nI g := by
  unfold isf at h
  rw [Bool.and_eq_true, decide_eq_true_eq, decide_eq_true_eq] at h
  obtain ⟨n, hn, rfl⟩ := nI_of h.1
  refine ⟨n, Nat.lt_of_not_le (fun q => h.2 ?_), rfl⟩
  rw [hz.1]
  exact nI_le q hn
theorem isf_no {z : Nat → Int32} {a : Int32} (h : ¬ isf z a = true) : a < 0 ∨ z 0 ≤ a := by
  unfold isf at h
  rw [Bool.and_eq_true, decide_eq_true_eq, decide_eq_true_eq] at h
  by_cases q : a < 0
  · exact Or.inl q
  · exact Or.inr (Classical.byContradiction (fun r => h ⟨q, r⟩))
theorem cF_t {M : MS} {z : Nat → Int32} {a : Int32} (h : CZ M 0 z) (hf : isf z a = true) : F_X3_isFighter M 0 a = some 1 := by
  unfold isf at hf
  rw [Bool.and_eq_true, decide_eq_true_eq, decide_eq_true_eq] at hf
  rw [F_X3_isFighter, h.1.1, if_neg hf.1, if_neg hf.2]
theorem cF_f {M : MS} {z : Nat → Int32} {a : Int32} (h : CZ M 0 z) (hf : ¬ isf z a = true) : F_X3_isFighter M 0 a = some 0 := by
  rw [F_X3_isFighter, h.1.1]
  rcases isf_no hf with q | q
  · rw [if_pos q]
  · by_cases r : a < 0
    · rw [if_pos r]
    · rw [if_neg r, if_pos q]
theorem mF_t {M : MS} {z : Nat → Int32} {a : Int32} (hm : rA M 221 = z) (hz : Z0 z) (hf : isf z a = true) : F_X5_isFighter M a = some 1 := by
  obtain ⟨g, hg, rfl⟩ := isf_n hz hf
  exact isF_yes (by rw [hm]; exact hz) (by rw [hm]; exact hg)
theorem mF_f {M : MS} {z : Nat → Int32} {a : Int32} (hm : rA M 221 = z) (hf : ¬ isf z a = true) : F_X5_isFighter M a = some 0 := isF_no (by rw [hm]; exact isf_no hf)
theorem rqA1 {M : MS} {K : MS → Option (Nat × Int32 × MS)} {d : Int32} : bx (F_X4_requireArgument M 1) K d = K M := by rw [F_X4_requireArgument, if_pos (by decide)]; rfl
theorem rqA0 {M : MS} {K : MS → Option (Nat × Int32 × MS)} {d : Int32} : bx (F_X4_requireArgument M 0) K d = some (1, d, M) := by rw [F_X4_requireArgument, if_neg (by decide)]; rfl
theorem rqS1 {M : MS} {K : MS → Option (Nat × Int32 × MS)} {d : Int32} : bx (F_X4_requireState M 1) K d = K M := by rw [F_X4_requireState, if_pos (by decide)]; rfl
theorem rqS0 {M : MS} {K : MS → Option (Nat × Int32 × MS)} {d : Int32} : bx (F_X4_requireState M 0) K d = some (2, d, M) := by rw [F_X4_requireState, if_neg (by decide)]; rfl
theorem rqF1 {M : MS} {z : Nat → Int32} {a : Int32} {K : MS → Option (Nat × Int32 × MS)} {d : Int32} (h : CZ M 0 z) (hf : isf z a = true) : bx (F_X4_requireFighter M a) K d = K M := by rw [F_X4_requireFighter, cF_t h hf, bd_s, if_pos (by decide)]; rfl
theorem rqF0 {M : MS} {z : Nat → Int32} {a : Int32} {K : MS → Option (Nat × Int32 × MS)} {d : Int32} (h : CZ M 0 z) (hf : ¬ isf z a = true) : bx (F_X4_requireFighter M a) K d = some (3, d, M) := by rw [F_X4_requireFighter, cF_f h hf, bd_s, if_neg (by decide)]; rfl
/-- the model's word of what it throws -/
theorem th_1 {M : MS} {A : Option (Int32 × MS)} : (if rF (wF M 80 220 1) 80 220 ≤ 0 then A else some (0, wF M 80 220 1)) = some (0, wF M 80 220 (nI 1)) := by rw [rF_self, if_neg (by decide)]; rfl
theorem th_2 {M : MS} {A : Option (Int32 × MS)} : (if rF (wF M 80 220 2) 80 220 ≤ 0 then A else some (0, wF M 80 220 2)) = some (0, wF M 80 220 (nI 2)) := by rw [rF_self, if_neg (by decide)]; rfl
theorem th_3 {M : MS} {A : Option (Int32 × MS)} : (if rF (wF M 80 220 3) 80 220 ≤ 0 then A else some (0, wF M 80 220 3)) = some (0, wF M 80 220 (nI 3)) := by rw [rF_self, if_neg (by decide)]; rfl
theorem th_0 {M : MS} {A B : Option (Int32 × MS)} : (if rF (wF M 80 220 0) 80 220 ≤ 0 then A else B) = A := by rw [rF_self, if_pos (by decide)]
/-! saving, and a change behind it -/
theorem PI_new {z z' : Nat → Int32} {m t : Nat} {sv : Nat → Nat → Int32} (h : PI z m sv t) (h1 : ZW z') (h2 : TH z') : PI z' (svM m) (svS sv m z) t := ⟨h1, h2, (PI_save h).2.2⟩
theorem CR_of {M : MS} {z : Nat → Int32} {m t : Nat} {sv : Nat → Nat → Int32} {b : Nat → Int32} (h : CI M z m sv t b) (hp : PI z m sv t) : CR M 0 (rA M (0 + 4)) M z := ⟨hp.1.1, h.1, CFR_refl, rfl⟩
/-- the class: saved, and what then changes the skirmish -/
theorem csv {M : MS} {z z' : Nat → Int32} {m t : Nat} {sv : Nat → Nat → Int32} {b : Nat → Int32} {K : MS → Option (Nat × Int32 × MS)} {r : Int32} (h : CI M z m sv t b) (hp : PI z m sv t) (hK : ∀ (M1 : MS) (R : Nat → Int32), CR M1 0 R M1 z → ∃ M2 R', K M1 = some (0, r, M2) ∧ CR M1 0 R' M2 z') : ∃ M2, (bd (F_X4_save M) K) = some (0, r, M2) ∧ CI M2 z' (svM m) (svS sv m z) t b ∧ MPart M M2 := by
  obtain ⟨M1, g1, g2, g3, g4⟩ := csave_eq h hp
  have hp1 := PI_save hp
  obtain ⟨M2, R', k1, k2⟩ := hK M1 _ (CR_of g2 hp1)
  exact ⟨M2, by rw [g1, bd_s, k1], CI_now g2 hp1 k2, MPart_trans g3 (MPart_CFR k2.2.2.1 (by decide))⟩
theorem MI_ch {M M1 : MS} {z z' : Nat → Int32} {m t : Nat} {sv : Nat → Nat → Int32} {b : Nat → Int32} (h : MI M z m sv t b) (hq : FQ M M1) (hz : rA M1 221 = z') : MI M1 z' m sv t b := by
  obtain ⟨a, b1, c1, d, e⟩ := h
  exact ⟨hz, by rw [hq.1 83 220 (by omega)]; exact b1, fun i hi j hj => by rw [hq.2.1 222 (by decide) (by decide)]; exact c1 i hi j hj, by rw [hq.1 86 220 (by omega)]; exact d, fun i hi => by rw [hq.2.1 224 (by decide) (by decide)]; exact e i hi⟩
/-- the model: saved, and what then changes the row of numbers -/
theorem msv {M : MS} {z z' : Nat → Int32} {m t : Nat} {sv : Nat → Nat → Int32} {b : Nat → Int32} {K : MS → Option (Int32 × MS)} {r : Int32} (h : MI M z m sv t b) (hp : PI z m sv t) (hK : ∀ M1 : MS, rA M1 221 = z → ∃ M2, K M1 = some (r, M2) ∧ FQ M1 M2 ∧ rA M2 221 = z') : ∃ M2, (bd (F_X5_save (wF M 80 220 0)) K) = some (r, M2) ∧ MI M2 z' (svM m) (svS sv m z) t b ∧ CPart M M2 ∧ rF M2 80 220 = nI 0 := by
  obtain ⟨M1, g1, g2, g3, g4⟩ := msave_eq (MI_80 (x := 0) (c := 80) (by decide) h) hp.2.2.1
  obtain ⟨M2, k1, k2, k3⟩ := hK M1 g2.1
  refine ⟨M2, by rw [g1, bd_s, k1], MI_ch g2 k2 k3, CPart_trans (CPart_trans CPart_80 g3) (CPart_FQ k2), ?_⟩
  rw [k2.1 80 220 (by omega), g4 80 (by decide), rF_self]
  rfl
