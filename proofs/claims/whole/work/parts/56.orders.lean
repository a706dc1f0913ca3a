/-! the text: the model's reading of it -/
/-- the model with the place that is read, what is wrong, and the orders' row -/
def mo (M : MS) (s w : Int32) (r : Nat → Int32) : MS := (fun c v => if v = 220 ∧ c = 91 then s else if v = 220 ∧ c = 92 then w else M.1 c v, fun v => if v = 226 then r else M.2.1 v, M.2.2)
theorem mo_91 {M : MS} {s w : Int32} {r : Nat → Int32} : rF (mo M s w r) 91 220 = s := by simp [rF, mo]
theorem mo_92 {M : MS} {s w : Int32} {r : Nat → Int32} : rF (mo M s w r) 92 220 = w := by simp [rF, mo]
theorem mo_F {M : MS} {s w : Int32} {r : Nat → Int32} {c v : Nat} (h : ¬ (v = 220 ∧ (c = 91 ∨ c = 92))) : rF (mo M s w r) c v = rF M c v := by
  unfold rF mo
  dsimp only
  rw [if_neg (fun q => h ⟨q.1, Or.inl q.2⟩), if_neg (fun q => h ⟨q.1, Or.inr q.2⟩)]
theorem mo_A {M : MS} {s w : Int32} {r : Nat → Int32} : rA (mo M s w r) 226 = r := by simp [rA, mo]
theorem mo_An {M : MS} {s w : Int32} {r : Nat → Int32} {v : Nat} (h : v ≠ 226) : rA (mo M s w r) v = rA M v := by simp [rA, mo, h]
theorem mo_w91 {M : MS} {s w x : Int32} {r : Nat → Int32} : wF (mo M s w r) 91 220 x = mo M x w r := by
  refine Prod.ext (funext fun c => funext fun v => ?_) rfl
  unfold wF mo
  dsimp only
  by_cases h : c = 91 ∧ v = 220
  · rw [if_pos h, if_pos ⟨h.2, h.1⟩]
  · have h2 : ¬ (v = 220 ∧ c = 91) := fun q => h ⟨q.2, q.1⟩
    rw [if_neg h, if_neg h2, if_neg h2]
theorem mo_w92 {M : MS} {s w x : Int32} {r : Nat → Int32} : wF (mo M s w r) 92 220 x = mo M s x r := by
  refine Prod.ext (funext fun c => funext fun v => ?_) rfl
  unfold wF mo
  dsimp only
  by_cases h : c = 92 ∧ v = 220
  · rw [if_pos h, if_neg (by omega), if_pos ⟨h.2, h.1⟩]
  · rw [if_neg h]
    by_cases h2 : v = 220 ∧ c = 91
    · rw [if_pos h2, if_pos h2]
    · have h3 : ¬ (v = 220 ∧ c = 92) := fun q => h ⟨q.2, q.1⟩
      rw [if_neg h2, if_neg h2, if_neg h3, if_neg h3]
theorem mo_wA {M : MS} {s w x : Int32} {r : Nat → Int32} {i : Nat} : wA (mo M s w r) 226 i x = mo M s w (upd r i x) := by
  refine Prod.ext rfl (Prod.ext (funext fun v => ?_) rfl)
  unfold wA mo
  dsimp only
  by_cases h : v = 226
  · rw [if_pos h, if_pos rfl, if_pos h]
  · rw [if_neg h, if_neg h, if_neg h]
theorem mo_self {M : MS} : mo M (rF M 91 220) (rF M 92 220) (rA M 226) = M := by
  refine Prod.ext (funext fun c => funext fun v => ?_) (Prod.ext (funext fun v => ?_) rfl)
  · unfold mo rF
    dsimp only
    by_cases h : v = 220 ∧ c = 91
    · rw [if_pos h, h.1, h.2]
    · rw [if_neg h]
      by_cases h2 : v = 220 ∧ c = 92
      · rw [if_pos h2, h2.1, h2.2]
      · rw [if_neg h2]
  · unfold mo rA
    dsimp only
    by_cases h : v = 226
    · rw [if_pos h, h]
    · rw [if_neg h]
/-- what the reading leaves as it was -/
def RQ (M M1 : MS) : Prop := (∀ c v, ¬ (v = 220 ∧ (c = 90 ∨ c = 91 ∨ c = 92)) → rF M1 c v = rF M c v) ∧ (∀ v, v ≠ 226 → rA M1 v = rA M v) ∧ M1.2.2 = M.2.2
theorem RQ_refl {M : MS} : RQ M M := ⟨fun _ _ _ => rfl, fun _ _ => rfl, rfl⟩
theorem RQ_trans {M M1 M2 : MS} (h1 : RQ M M1) (h2 : RQ M1 M2) : RQ M M2 := ⟨fun c v h => (h2.1 c v h).trans (h1.1 c v h), fun v a => (h2.2.1 v a).trans (h1.2.1 v a), h2.2.2.trans h1.2.2⟩
theorem RQ_mo {M : MS} {s w : Int32} {r : Nat → Int32} : RQ M (mo M s w r) := ⟨fun c v h => mo_F (fun q => h ⟨q.1, Or.inr q.2⟩), fun v h => mo_An h, rfl⟩
theorem RQ_F {M : MS} {c : Nat} {x : Int32} (hc : c = 90 ∨ c = 91 ∨ c = 92) : RQ M (wF M c 220 x) := ⟨fun c' v h => by rw [rF_wF, if_neg (fun q => h ⟨q.2, by rw [q.1]; exact hc⟩)], fun _ _ => rfl, rfl⟩
def MT (M : MS) (t : Nat) (b : Nat → Int32) : Prop := rF M 86 220 = nI t ∧ ∀ i, i < t → rA M 224 i = b i
theorem MT_RQ {M M1 : MS} {t : Nat} {b : Nat → Int32} (h : MT M t b) (hq : RQ M M1) : MT M1 t b := ⟨by rw [hq.1 86 220 (by omega)]; exact h.1, fun i hi => by rw [hq.2.1 224 (by decide)]; exact h.2 i hi⟩
theorem let_yes {M : MS} {t s : Nat} {w : Int32} {r b : Nat → Int32} (h : MT M t b) (ht : t ≤ 60) (hs : s < t) : F_X5_letter (mo M (nI s) w r) = some (b s) := by
  rw [F_X5_letter, mo_F (by omega), mo_91, mo_An (by decide), h.1, if_neg (nI_ge hs (by omega)), gdb_t (inb_nI (by omega) (by omega)), nI_clamp (by omega), h.2 s hs]
theorem let_no {M : MS} {t s : Nat} {w : Int32} {r b : Nat → Int32} (h : MT M t b) (hs : t ≤ s) (hs2 : s ≤ 1000) : F_X5_letter (mo M (nI s) w r) = some (-1) := by
  rw [F_X5_letter, mo_F (by omega), mo_91, h.1, if_pos (nI_le hs (by omega))]
theorem let_any {M : MS} {t s : Nat} {w : Int32} {r b : Nat → Int32} (h : MT M t b) (ht : t ≤ 60) (hs2 : s ≤ 1000) : ∃ y, F_X5_letter (mo M (nI s) w r) = some y := by
  by_cases hs : s < t
  · exact ⟨_, let_yes h ht hs⟩
  · exact ⟨_, let_no h (by omega) hs2⟩
theorem want_1 {M : MS} {s : Nat} {r : Nat → Int32} : F_X5_wants (mo M (nI s) (-1) r) 1 = some (mo M (nI (s + 1)) (-1) r) := by
  rw [F_X5_wants, mo_92, if_neg (by decide), nm_k, if_neg (by decide)]
  dsimp only
  rw [nm_k, nm_k, mo_w92, mo_91, nI_1, mo_w91]
theorem want_0 {M : MS} {s : Nat} {r : Nat → Int32} : F_X5_wants (mo M (nI s) (-1) r) 0 = some (mo M (nI (s + 1)) (nI s) r) := by
  rw [F_X5_wants, mo_92, if_neg (by decide), nm_k, if_pos rfl]
  dsimp only
  rw [nm_k, nm_k, mo_91, mo_w92, mo_91, nI_1, mo_w91]
theorem want_no {M : MS} {s w x : Int32} {r : Nat → Int32} (h : ¬ w = -1) : F_X5_wants (mo M s w r) x = some (mo M s w r) := by
  rw [F_X5_wants, mo_92, if_pos h]
theorem in_dg {M : MS} {x : Int32} {c l h : Nat} (hx : x = nI c) (hc : c ≤ 126) (hl : l ≤ 9) (hh : h ≤ 9) : F_X5_in M (x - 48) (nI l) (nI h) = some (if dgi x (nI l) (nI h) = true then 1 else 0) := by
  subst hx
  have e : ∀ k, k ≤ 9 → (48 : Int32) + nI k = nI (48 + k) := fun k _ => by rw [nI_lit 48, nI_add]
  have e2 : (nI c - 48 : Int32).toInt = (c : Int) - 48 := by rw [nI_lit 48, pk_sub_toInt (by omega) (by decide)]; rfl
  rw [F_X5_in]
  unfold dgi
  rw [e l hl, e h hh]
  by_cases h1 : c < 48 + l
  · rw [if_pos (by rw [Int32.lt_iff_toInt_lt, e2, nI_toInt (by omega)]; omega), decide_eq_false (fun q => q (nI_lt h1 (by omega)))]; rfl
  · rw [if_neg (by rw [Int32.lt_iff_toInt_lt, e2, nI_toInt (by omega)]; omega), decide_eq_true (nI_nlt (by omega) (by omega))]
    by_cases h2 : 48 + h < c
    · rw [if_pos (by rw [Int32.lt_iff_toInt_lt, e2, nI_toInt (by omega)]; omega), decide_eq_false (fun q => q (nI_lt h2 (by omega)))]; rfl
    · rw [if_neg (by rw [Int32.lt_iff_toInt_lt, e2, nI_toInt (by omega)]; omega), decide_eq_true (nI_nlt (by omega) (by omega))]; rfl
theorem in_m1 {M : MS} {l h : Nat} (hl : l ≤ 9) : F_X5_in M ((-1 : Int32) - 48) (nI l) (nI h) = some 0 := by
  have e2 : ((-1 : Int32) - 48).toInt = -49 := by decide
  rw [F_X5_in, if_pos (by rw [Int32.lt_iff_toInt_lt, e2, nI_toInt (by omega)]; omega)]
theorem dig_eq {M : MS} {t s l h : Nat} {r b : Nat → Int32} (hm : MT M t b) (hb : BV b t) (ht : t ≤ 60) (hs : s ≤ t) (hl : l ≤ 9) (hh : h ≤ 9) : ∃ y, F_X5_digit (mo M (nI s) (-1) r) (nI l) (nI h) = some (y, if s < t ∧ dgi (b s) (nI l) (nI h) = true then mo M (nI (s + 1)) (-1) r else mo M (nI (s + 1)) (nI s) r) ∧ (s < t → y = b s - 48) := by
  by_cases h1 : s < t
  · obtain ⟨c, c1, c2, c3⟩ := hb s h1
    refine ⟨b s - 48, ?_, fun _ => rfl⟩
    rw [F_X5_digit, let_yes hm ht h1, bd_s, nm_k, in_dg c3 c2 hl hh, bd_s]
    by_cases h2 : dgi (b s) (nI l) (nI h) = true
    · rw [if_pos h2, want_1, bd_s, if_pos ⟨h1, h2⟩]
    · rw [if_neg h2, want_0, bd_s, if_neg (fun q => h2 q.2)]
  · refine ⟨-1 - 48, ?_, fun q => absurd q h1⟩
    rw [F_X5_digit, let_no hm (by omega) (by omega), bd_s, nm_k, in_m1 hl, bd_s, want_0, bd_s, if_neg (fun q => h1 q.1)]
theorem dig_no {M : MS} {t s : Nat} {lo hi w : Int32} {r b : Nat → Int32} (hm : MT M t b) (ht : t ≤ 60) (hs : s ≤ 100) (hw : ¬ w = -1) : ∃ y, F_X5_digit (mo M (nI s) w r) lo hi = some (y, mo M (nI s) w r) := by
  obtain ⟨y, hy⟩ := let_any (w := w) (r := r) (s := s) hm ht (by omega)
  refine ⟨y - 48, ?_⟩
  have e : ∃ q, F_X5_in (mo M (nI s) w r) (y - 48) lo hi = some q := by
    rw [F_X5_in]
    split
    · exact ⟨_, rfl⟩
    · split <;> exact ⟨_, rfl⟩
  obtain ⟨q, hq⟩ := e
  rw [F_X5_digit, hy, bd_s, nm_k, hq, bd_s, want_no hw, bd_s]
theorem ro_k6 {r3 : Int32} {J : Int32 → Option MS} : nm J (fun j => (if r3 = (115 : Int32) then (j (1 : Int32)) else (if r3 = (109 : Int32) then (j (1 : Int32)) else (if r3 = (104 : Int32) then (j (1 : Int32)) else (if r3 = (99 : Int32) then (j (1 : Int32)) else (if ¬ r3 = (105 : Int32) then (j (0 : Int32)) else (j (1 : Int32)))))))) = J (if kl r3 = 1 ∨ kl r3 = 2 then 1 else 0) := by
  rw [nm_k]
  rcases kl_of (c := r3) with ⟨h, q⟩ | ⟨h, q⟩ | ⟨h, q⟩ | ⟨h, q1, q2, q3, q4, q5, q6, q7⟩
  · rw [if_pos (show kl r3 = 1 ∨ kl r3 = 2 from Or.inl h)]
    rcases q with q | q | q | q <;> subst q <;> rfl
  · rw [if_pos (show kl r3 = 1 ∨ kl r3 = 2 from Or.inr h)]
    subst q; rfl
  · rw [if_neg (show ¬ (kl r3 = 1 ∨ kl r3 = 2) by omega)]
    rcases q with q | q <;> subst q <;> rfl
  · rw [if_neg (show ¬ (kl r3 = 1 ∨ kl r3 = 2) by omega), if_neg q1, if_neg q2, if_neg q3, if_neg q5, if_pos q4]
theorem ro_k8 {r3 : Int32} {J : Int32 → Option MS} : nm J (fun j => (if ¬ (if kl r3 = 1 ∨ kl r3 = 2 then (1 : Int32) else 0) = 0 then (j (1 : Int32)) else (if r3 = (119 : Int32) then (j (1 : Int32)) else (if ¬ r3 = (101 : Int32) then (j (0 : Int32)) else (j (1 : Int32)))))) = J (if kl r3 = 0 then 0 else 1) := by
  rw [nm_k]
  rcases kl_of (c := r3) with ⟨h, q⟩ | ⟨h, q⟩ | ⟨h, q⟩ | ⟨h, q1, q2, q3, q4, q5, q6, q7⟩
  · rw [if_pos (show kl r3 = 1 ∨ kl r3 = 2 from Or.inl h), if_pos (show ¬ (1 : Int32) = 0 by decide), if_neg (show ¬ kl r3 = 0 by omega)]
  · rw [if_pos (show kl r3 = 1 ∨ kl r3 = 2 from Or.inr h), if_pos (show ¬ (1 : Int32) = 0 by decide), if_neg (show ¬ kl r3 = 0 by omega)]
  · rw [if_neg (show ¬ (kl r3 = 1 ∨ kl r3 = 2) by omega), if_neg (show ¬ ¬ (0 : Int32) = 0 by decide), if_neg (show ¬ kl r3 = 0 by omega)]
    rcases q with q | q <;> subst q <;> rfl
  · rw [if_neg (show ¬ (kl r3 = 1 ∨ kl r3 = 2) by omega), if_neg (show ¬ ¬ (0 : Int32) = 0 by decide), if_neg q6, if_pos q7, if_pos h]
def stored (r b : Nat → Int32) (n p : Nat) : Prop := r (4 * n) = b p ∧ (kl (b p) = 1 ∨ kl (b p) = 2 → r (4 * n + 1) = b (p + 1) - 48) ∧ (kl (b p) = 2 → r (4 * n + 2) = b (p + 2) - 48 ∧ r (4 * n + 3) = b (p + 3) - 48)
theorem ix_4 {n k : Nat} : nI (4 * n) + OfNat.ofNat k = nI (4 * n + k) := by rw [nI_lit k, nI_add]
/-- one order is read -/
def ROQ (M : MS) (b : Nat → Int32) (t i n : Nat) (M' : MS) : Prop :=
  RQ M M' ∧ rF M' 90 220 = nI (n + 1) ∧ (∀ j, j < 4 * n → rA M' 226 j = rA M 226 j) ∧ (((oe b t i).1 = true ∧ rF M' 91 220 = nI (oe b t i).2 ∧ rF M' 92 220 = -1 ∧ stored (rA M' 226) b n i) ∨ ((oe b t i).1 = false ∧ rF M' 92 220 = nI (oe b t i).2))
theorem ro_fin {M : MS} {b r : Nat → Int32} {t i n s : Nat} {w : Int32} (h90 : rF M 90 220 = nI n) (hr : ∀ j, j < 4 * n → r j = rA M 226 j) (h : ((oe b t i).1 = true ∧ s = (oe b t i).2 ∧ w = -1 ∧ stored r b n i) ∨ ((oe b t i).1 = false ∧ w = nI (oe b t i).2)) : ∃ M', (nm (wF (mo M (nI s) w r) 90 220 ((rF (mo M (nI s) w r) 90 220) + (1 : Int32))) fun M16 => (some M16)) = some M' ∧ ROQ M b t i n M' := by
  refine ⟨_, rfl, RQ_trans RQ_mo (RQ_F (Or.inl rfl)), ?_, ?_, ?_⟩
  · rw [rF_wF, if_pos ⟨rfl, rfl⟩, mo_F (by omega), h90, nI_1]
  · intro j hj
    rw [rA_wF, mo_A]
    exact hr j hj
  · rcases h with ⟨h1, h2, h3, h4⟩ | ⟨h1, h2⟩
    · refine Or.inl ⟨h1, ?_, ?_, ?_⟩
      · rw [rF_wF, if_neg (by omega), mo_91, h2]
      · rw [rF_wF, if_neg (by omega), mo_92, h3]
      · rw [rA_wF, mo_A]; exact h4
    · refine Or.inr ⟨h1, ?_⟩
      rw [rF_wF, if_neg (by omega), mo_92, h2]
theorem ro_eq {M : MS} {b : Nat → Int32} {t i n : Nat} (hm : MT M t b) (hb : BV b t) (ht : t ≤ 60) (hi : i ≤ t) (hn : n ≤ 31) (h90 : rF M 90 220 = nI n) (h91 : rF M 91 220 = nI i) (h92 : rF M 92 220 = -1) : ∃ M', F_X5_readOrder M = some M' ∧ ROQ M b t i n M' := by
  have hM : M = mo M (nI i) (-1) (rA M 226) := by rw [← h91, ← h92]; exact mo_self.symm
  obtain ⟨r3, hr3, hk⟩ : ∃ r3, F_X5_letter M = some r3 ∧ ((i < t ∧ r3 = b i) ∨ (t ≤ i ∧ r3 = -1)) := by
    by_cases q : i < t
    · exact ⟨b i, by rw [hM]; exact let_yes hm ht q, Or.inl ⟨q, rfl⟩⟩
    · exact ⟨-1, by rw [hM]; exact let_no hm (by omega) (by omega), Or.inr ⟨by omega, rfl⟩⟩
  have hx1 : (4 : Int32) * nI n = nI (4 * n) := by rw [nI_lit 4, pk_mul]
  have hw0 : wA M 226 (4 * n) r3 = mo M (nI i) (-1) (upd (rA M 226) (4 * n) r3) := by
    have e := mo_wA (M := M) (s := nI i) (w := -1) (r := rA M 226) (i := 4 * n) (x := r3)
    rw [← hM] at e
    exact e
  rw [F_X5_readOrder, h90, hx1, nm_k, hr3, bd_s, gdb_t (inb_nI (by omega) (by omega)), nI_clamp (by omega), nm_k, hw0, ro_k6, ro_k8]
  have u0 : ∀ j, j < 4 * n → upd (rA M 226) (4 * n) r3 j = rA M 226 j := fun j hj => upd_n (by omega)
  -- nothing that can begin an order
  by_cases k0 : kl r3 = 0
  · have e6 : (if kl r3 = 1 ∨ kl r3 = 2 then (1 : Int32) else 0) = 0 := if_neg (by omega)
    have e99 : ¬ r3 = 99 := fun q => by rw [q] at k0; exact absurd k0 (by decide)
    rw [if_pos k0, want_0, bd_s, nm_k, if_pos e6]
    dsimp only
    rw [nm_k, if_pos e99]
    refine ro_fin h90 u0 (Or.inr ?_)
    rcases hk with ⟨q1, q2⟩ | ⟨q1, q2⟩
    · rw [q2] at k0
      unfold oe
      rw [if_neg (by omega), if_neg (by omega), if_neg (by omega), if_neg (by omega)]
      exact ⟨rfl, rfl⟩
    · unfold oe
      rw [if_pos q1]
      exact ⟨rfl, rfl⟩
  rw [if_neg k0, want_1, bd_s]
  obtain ⟨hit, hr⟩ : i < t ∧ r3 = b i := by
    rcases hk with q | ⟨q1, q2⟩
    · exact q
    · rw [q2] at k0; exact absurd (by decide) k0
  subst hr
  have s0 : ∀ r : Nat → Int32, r (4 * n) = b i → r (4 * n) = b i := fun _ h => h
  by_cases k3 : kl (b i) = 3
  · have e6 : (if kl (b i) = 1 ∨ kl (b i) = 2 then (1 : Int32) else 0) = 0 := if_neg (by omega)
    have e99 : ¬ b i = 99 := fun q => by rw [q] at k3; exact absurd k3 (by decide)
    rw [nm_k, if_pos e6]
    dsimp only
    rw [nm_k, if_pos e99]
    refine ro_fin h90 u0 (Or.inl ?_)
    have eo : oe b t i = (true, i + 1) := by unfold oe; rw [if_neg (by omega), if_pos k3]
    rw [eo]
    exact ⟨rfl, rfl, rfl, upd_s, fun q => by omega, fun q => by omega⟩
  have e6 : (if kl (b i) = 1 ∨ kl (b i) = 2 then (1 : Int32) else 0) = 1 := if_pos (by
    rcases kl_of (c := b i) with ⟨h, q⟩ | ⟨h, q⟩ | ⟨h, q⟩ | ⟨h, q⟩
    · exact Or.inl h
    · exact Or.inr h
    · exact absurd h k3
    · exact absurd h k0)
  obtain ⟨y1, d1, v1⟩ := dig_eq (s := i + 1) (l := 0) (h := 9) (r := upd (rA M 226) (4 * n) (b i)) hm hb ht (by omega) (by decide) (by decide)
  have d1' : F_X5_digit (mo M (nI (i + 1)) (-1) (upd (rA M 226) (4 * n) (b i))) 0 9 = _ := d1
  have g0 : dgi (b (i + 1)) (nI 0) (nI 9) = dgi (b (i + 1)) 0 9 := rfl
  rw [nm_k, if_neg (by rw [e6]; decide), d1', bd2_s]
  dsimp only
  rw [show nI (4 * n) + (1 : Int32) = nI (4 * n + 1) from nI_1 _, gdb_t (inb_nI (by omega) (by omega)), nI_clamp (by omega), nm_k, nm_k]
  have u1 : ∀ j, j < 4 * n → upd (upd (rA M 226) (4 * n) (b i)) (4 * n + 1) y1 j = rA M 226 j := fun j hj => by rw [upd_n (by omega), upd_n (by omega)]
  have a0 : upd (upd (rA M 226) (4 * n) (b i)) (4 * n + 1) y1 (4 * n) = b i := by rw [upd_n (by omega), upd_s]
  have a1 : upd (upd (rA M 226) (4 * n) (b i)) (4 * n + 1) y1 (4 * n + 1) = y1 := upd_s
  by_cases k1 : kl (b i) = 1
  · have e99 : ¬ b i = 99 := fun q => by rw [q] at k1; exact absurd k1 (by decide)
    rw [if_pos e99]
    by_cases g : i + 1 < t ∧ dgi (b (i + 1)) (nI 0) (nI 9) = true
    · rw [if_pos g, mo_wA]
      refine ro_fin h90 u1 (Or.inl ?_)
      have eo : oe b t i = (true, i + 2) := by unfold oe; rw [if_neg (by omega), if_neg k3, if_pos k1, if_pos (show i + 1 < t ∧ dgi (b (i + 1)) 0 9 = true from g)]
      rw [eo]
      exact ⟨rfl, rfl, rfl, a0, fun _ => a1.trans (v1 g.1), fun q => by omega⟩
    · rw [if_neg g, mo_wA]
      refine ro_fin h90 u1 (Or.inr ?_)
      have eo : oe b t i = (false, i + 1) := by unfold oe; rw [if_neg (by omega), if_neg k3, if_pos k1, if_neg (show ¬ (i + 1 < t ∧ dgi (b (i + 1)) 0 9 = true) from g)]
      rw [eo]
      exact ⟨rfl, rfl⟩
  have k2 : kl (b i) = 2 := by
    rcases kl_of (c := b i) with ⟨h, q⟩ | ⟨h, q⟩ | ⟨h, q⟩ | ⟨h, q⟩
    · exact absurd h k1
    · exact h
    · exact absurd h k3
    · exact absurd h k0
  have e99 : b i = 99 := by
    rcases kl_of (c := b i) with ⟨h, q⟩ | ⟨h, q⟩ | ⟨h, q⟩ | ⟨h, q⟩
    · exact absurd h k1
    · exact q
    · exact absurd h k3
    · exact absurd h k0
  have hx2 : nI (4 * n) + (2 : Int32) = nI (4 * n + 2) := by rw [nI_lit 2, nI_add]
  have hx3 : nI (4 * n) + (3 : Int32) = nI (4 * n + 3) := by rw [nI_lit 3, nI_add]
  rw [if_neg (fun q => q e99)]
  by_cases g : i + 1 < t ∧ dgi (b (i + 1)) (nI 0) (nI 9) = true
  · rw [if_pos g, mo_wA]
    obtain ⟨y2, d2, v2⟩ := dig_eq (s := i + 2) (l := 0) (h := 3) (r := upd (upd (rA M 226) (4 * n) (b i)) (4 * n + 1) y1) hm hb ht (by omega) (by decide) (by decide)
    have d2' : F_X5_digit (mo M (nI (i + 1 + 1)) (-1) (upd (upd (rA M 226) (4 * n) (b i)) (4 * n + 1) y1)) 0 3 = _ := d2
    rw [d2', bd2_s]
    try dsimp only
    rw [hx2, gdb_t (inb_nI (by omega) (by omega)), nI_clamp (by omega), nm_k]
    by_cases g2 : i + 2 < t ∧ dgi (b (i + 2)) (nI 0) (nI 3) = true
    · rw [if_pos g2, mo_wA]
      obtain ⟨y3, d3, v3⟩ := dig_eq (s := i + 3) (l := 1) (h := 5) (r := upd (upd (upd (rA M 226) (4 * n) (b i)) (4 * n + 1) y1) (4 * n + 2) y2) hm hb ht (by omega) (by decide) (by decide)
      have d3' : F_X5_digit (mo M (nI (i + 2 + 1)) (-1) (upd (upd (upd (rA M 226) (4 * n) (b i)) (4 * n + 1) y1) (4 * n + 2) y2)) 1 5 = _ := d3
      rw [d3', bd2_s]
      try dsimp only
      rw [hx3, gdb_t (inb_nI (by omega) (by omega)), nI_clamp (by omega), nm_k]
      have u3 : ∀ j, j < 4 * n → upd (upd (upd (upd (rA M 226) (4 * n) (b i)) (4 * n + 1) y1) (4 * n + 2) y2) (4 * n + 3) y3 j = rA M 226 j := fun j hj => by rw [upd_n (by omega), upd_n (by omega), u1 j hj]
      by_cases g3 : i + 3 < t ∧ dgi (b (i + 3)) (nI 1) (nI 5) = true
      · rw [if_pos g3, mo_wA]
        refine ro_fin h90 u3 (Or.inl ?_)
        have eo : oe b t i = (true, i + 4) := by unfold oe; rw [if_neg (by omega), if_neg k3, if_neg k1, if_pos k2, if_pos (show i + 1 < t ∧ dgi (b (i + 1)) 0 9 = true from g), if_pos (show i + 2 < t ∧ dgi (b (i + 2)) 0 3 = true from g2), if_pos (show i + 3 < t ∧ dgi (b (i + 3)) 1 5 = true from g3)]
        rw [eo]
        refine ⟨rfl, rfl, rfl, ?_, fun _ => ?_, fun _ => ⟨?_, ?_⟩⟩
        · rw [upd_n (by omega), upd_n (by omega)]; exact a0
        · rw [upd_n (by omega), upd_n (by omega), a1]; exact v1 g.1
        · rw [upd_n (by omega), upd_s]; exact v2 g2.1
        · rw [upd_s]; exact v3 g3.1
      · rw [if_neg g3, mo_wA]
        refine ro_fin h90 u3 (Or.inr ?_)
        have eo : oe b t i = (false, i + 3) := by unfold oe; rw [if_neg (by omega), if_neg k3, if_neg k1, if_pos k2, if_pos (show i + 1 < t ∧ dgi (b (i + 1)) 0 9 = true from g), if_pos (show i + 2 < t ∧ dgi (b (i + 2)) 0 3 = true from g2), if_neg (show ¬ (i + 3 < t ∧ dgi (b (i + 3)) 1 5 = true) from g3)]
        rw [eo]
        exact ⟨rfl, rfl⟩
    · rw [if_neg g2, mo_wA]
      obtain ⟨y3, d3⟩ := dig_no (s := i + 2 + 1) (lo := 1) (hi := 5) (w := nI (i + 2)) (r := upd (upd (upd (rA M 226) (4 * n) (b i)) (4 * n + 1) y1) (4 * n + 2) y2) hm ht (by omega) (ne1 _ (by omega))
      rw [d3, bd2_s]
      try dsimp only
      rw [hx3, gdb_t (inb_nI (by omega) (by omega)), nI_clamp (by omega), nm_k, mo_wA]
      refine ro_fin h90 (fun j hj => by rw [upd_n (by omega), upd_n (by omega), u1 j hj]) (Or.inr ?_)
      have eo : oe b t i = (false, i + 2) := by unfold oe; rw [if_neg (by omega), if_neg k3, if_neg k1, if_pos k2, if_pos (show i + 1 < t ∧ dgi (b (i + 1)) 0 9 = true from g), if_neg (show ¬ (i + 2 < t ∧ dgi (b (i + 2)) 0 3 = true) from g2)]
      rw [eo]
      exact ⟨rfl, rfl⟩
  · rw [if_neg g, mo_wA]
    obtain ⟨y2, d2⟩ := dig_no (s := i + 1 + 1) (lo := 0) (hi := 3) (w := nI (i + 1)) (r := upd (upd (rA M 226) (4 * n) (b i)) (4 * n + 1) y1) hm ht (by omega) (ne1 _ (by omega))
    rw [d2, bd2_s]
    try dsimp only
    rw [hx2, gdb_t (inb_nI (by omega) (by omega)), nI_clamp (by omega), nm_k, mo_wA]
    obtain ⟨y3, d3⟩ := dig_no (s := i + 1 + 1) (lo := 1) (hi := 5) (w := nI (i + 1)) (r := upd (upd (upd (rA M 226) (4 * n) (b i)) (4 * n + 1) y1) (4 * n + 2) y2) hm ht (by omega) (ne1 _ (by omega))
    rw [d3, bd2_s]
    try dsimp only
    rw [hx3, gdb_t (inb_nI (by omega) (by omega)), nI_clamp (by omega), nm_k, mo_wA]
    refine ro_fin h90 (fun j hj => by rw [upd_n (by omega), upd_n (by omega), u1 j hj]) (Or.inr ?_)
    have eo : oe b t i = (false, i + 1) := by unfold oe; rw [if_neg (by omega), if_neg k3, if_neg k1, if_pos k2, if_neg (show ¬ (i + 1 < t ∧ dgi (b (i + 1)) 0 9 = true) from g)]
    rw [eo]
    exact ⟨rfl, rfl⟩
/-- where the orders begin -/
def os (b : Nat → Int32) (t : Nat) : Nat → Nat
  | 0 => 0
  | k + 1 => (oe b t (os b t k)).2 + 1
def OK1 (r b : Nat → Int32) (t n : Nat) : Prop := ∀ k, k < n → stored r b k (os b t k) ∧ (oe b t (os b t k)).1 = true ∧ os b t k ≤ t ∧ (oe b t (os b t k)).2 < t ∧ b (oe b t (os b t k)).2 = 59
def OK2 (r b : Nat → Int32) (t N : Nat) : Prop := ∃ n, N = n + 1 ∧ OK1 r b t n ∧ stored r b n (os b t n) ∧ (oe b t (os b t n)).1 = true ∧ os b t n ≤ t ∧ (oe b t (os b t n)).2 = t
theorem st_keep {r r' b : Nat → Int32} {n p m : Nat} (h : stored r b n p) (hn : n < m) (hr : ∀ j, j < 4 * m → r' j = r j) : stored r' b n p := by
  obtain ⟨a, c, d⟩ := h
  exact ⟨by rw [hr _ (by omega)]; exact a, fun q => by rw [hr _ (by omega)]; exact c q, fun q => by rw [hr _ (by omega), hr _ (by omega)]; exact d q⟩
theorem OK1_keep {r r' b : Nat → Int32} {t n : Nat} (h : OK1 r b t n) (hr : ∀ j, j < 4 * n → r' j = r j) : OK1 r' b t n := fun k hk => ⟨st_keep (h k hk).1 hk hr, (h k hk).2⟩
def RBQ (M : MS) (b : Nat → Int32) (t i : Nat) (M' : MS) : Prop := RQ M M' ∧ ((ae b (t - i) 0 i = 5 ∧ rF M' 92 220 = -1 ∧ ∃ N, N ≤ 31 ∧ rF M' 90 220 = nI N ∧ OK2 (rA M' 226) b t N) ∨ (¬ ae b (t - i) 0 i = 5 ∧ rF M' 92 220 = aw b (t - i) 0 i ∧ ∃ j, j ≤ t ∧ aw b (t - i) 0 i = nI j))
theorem rb_l {b : Nat → Int32} {t : Nat} (hb : BV b t) (ht : t ≤ 60) : ∀ d i n k (M : MS), t + 1 ≤ i + d → d < k → MT M t b → i ≤ t → 2 * n ≤ i → i = os b t n → rF M 90 220 = nI n → rF M 91 220 = nI i → rF M 92 220 = -1 → OK1 (rA M 226) b t n → ∃ M', F_X5_readBuffer_l17 (k + 1) 1 M = some (rF M' 92 220, M') ∧ RBQ M b t i M' := by
  intro d
  induction d with
  | zero => intro i n k M h hk hm hi; omega
  | succ d ih =>
    intro i n k M h hk hm hi hn hos h90 h91 h92 hok
    obtain ⟨k, rfl⟩ : ∃ q, k = q + 1 := ⟨k - 1, by omega⟩
    obtain ⟨M1, r1, q1, q2, q3, q4⟩ := ro_eq hm hb ht hi (by omega) h90 h91 h92
    have hau := au_oe (b := b) hi
    have hm1 := MT_RQ hm q1
    rw [F_X5_readBuffer_l17, if_neg (by decide), r1, bd_s, nm_k]
    rcases q4 with ⟨o1, o2, o3, o4⟩ | ⟨o1, o2⟩
    · obtain ⟨a1, a2, a3, a4⟩ := hau.1 o1
      have hlt := oe_lt o1
      rw [if_neg (by rw [o3]; decide), hm1.1, o2]
      by_cases he : (oe b t i).2 = t
      · rw [if_pos (nI_le (by omega) (by omega))]
        dsimp only
        rw [if_pos rfl, F_X5_readBuffer_l17, if_pos rfl]
        refine ⟨M1, rfl, q1, Or.inl ⟨?_, o3, n + 1, by omega, q2, n, rfl, OK1_keep hok q3, ?_, ?_, ?_, ?_⟩⟩
        · rw [a4, he, Nat.sub_self, ae]
        · rw [← hos]; exact o4
        · rw [← hos]; exact o1
        · rw [← hos]; exact hi
        · rw [← hos]; exact he
      · have hM1 : M1 = mo M1 (nI (oe b t i).2) (-1) (rA M1 226) := by rw [← o2, ← o3]; exact mo_self.symm
        have hlet : F_X5_letter M1 = some (b (oe b t i).2) := by rw [hM1]; exact let_yes hm1 ht (by omega)
        rw [if_neg (nI_ge (by omega) (by omega))]
        dsimp only
        rw [if_neg (by decide), hlet, bd_s, nm_k]
        have ea : aw b (t - i) 0 i = aw b (t - (oe b t i).2) 5 (oe b t i).2 := a3
        by_cases h59 : b (oe b t i).2 = 59
        · have hw : F_X5_wants M1 1 = some (mo M1 (nI ((oe b t i).2 + 1)) (-1) (rA M1 226)) := by
            have e := want_1 (M := M1) (s := (oe b t i).2) (r := rA M1 226)
            rw [← hM1] at e
            exact e
          have e0 : nx 5 (b (oe b t i).2) = 0 := by rw [nx5, if_pos h59]
          rw [if_neg (fun q => q h59)]
          dsimp only
          rw [hw, bd_s, mo_92, if_neg (by decide)]
          obtain ⟨M2, r2, p1, p2⟩ := ih ((oe b t i).2 + 1) (n + 1) k (mo M1 (nI ((oe b t i).2 + 1)) (-1) (rA M1 226)) (by omega) (by omega) (MT_RQ hm1 RQ_mo) (by omega) (by omega) (by rw [os, ← hos]) (by rw [mo_F (by omega)]; exact q2) mo_91 mo_92 (by
            rw [mo_A]
            intro j hj
            by_cases e : j = n
            · subst e
              rw [← hos]
              exact ⟨o4, o1, hi, by omega, h59⟩
            · exact OK1_keep hok q3 j (by omega))
          refine ⟨M2, r2, RQ_trans (RQ_trans q1 RQ_mo) p1, ?_⟩
          have f1 : aw b (t - i) 0 i = aw b (t - ((oe b t i).2 + 1)) 0 ((oe b t i).2 + 1) := by rw [a3, aw_s (by omega), e0, if_neg (by decide)]
          have f2 : ae b (t - i) 0 i = ae b (t - ((oe b t i).2 + 1)) 0 ((oe b t i).2 + 1) := by rw [a4, ae_s (by omega), e0]
          rw [f1, f2]
          exact p2
        · have hw : F_X5_wants M1 0 = some (mo M1 (nI ((oe b t i).2 + 1)) (nI (oe b t i).2) (rA M1 226)) := by
            have e := want_0 (M := M1) (s := (oe b t i).2) (r := rA M1 226)
            rw [← hM1] at e
            exact e
          have e6 : nx 5 (b (oe b t i).2) = 6 := by rw [nx5, if_neg h59]
          rw [if_pos h59]
          dsimp only
          rw [hw, bd_s, mo_92, if_pos (ne1 _ (by omega)), F_X5_readBuffer_l17, if_pos rfl]
          have f1 : aw b (t - i) 0 i = nI (oe b t i).2 := by rw [a3, aw_s (by omega), e6, if_pos rfl]
          refine ⟨_, rfl, RQ_trans q1 RQ_mo, Or.inr ⟨?_, ?_, (oe b t i).2, a2, f1⟩⟩
          · rw [a4, ae_s (by omega), e6, ae_6]; decide
          · rw [mo_92, f1]
    · obtain ⟨a1, a2, a3⟩ := hau.2 o1
      rw [o2, if_pos (ne1 _ (by omega))]
      dsimp only
      rw [if_pos rfl, F_X5_readBuffer_l17, if_pos rfl]
      exact ⟨M1, rfl, q1, Or.inr ⟨a3, o2.trans a2.symm, _, a1, a2⟩⟩
theorem rb_eq {M : MS} {b : Nat → Int32} {t : Nat} (hm : MT M t b) (hb : BV b t) (ht : t ≤ 60) : ∃ M', F_X5_readBuffer M = some (rF M' 92 220, M') ∧ RBQ M b t 0 M' := by
  have h1 : RQ M (wF (wF (wF M 90 220 0) 91 220 0) 92 220 (-1)) := RQ_trans (RQ_trans (RQ_F (Or.inl rfl)) (RQ_F (Or.inr (Or.inl rfl)))) (RQ_F (Or.inr (Or.inr rfl)))
  rw [F_X5_readBuffer, nm_k, nm_k, nm_k, FU_s]
  obtain ⟨M', r, q1, q2⟩ := rb_l hb ht 61 0 0 5999 (wF (wF (wF M 90 220 0) 91 220 0) 92 220 (-1)) (by omega) (by omega) (MT_RQ hm h1) (by omega) (by omega) rfl (by rw [rF_wF, if_neg (by omega), rF_wF, if_neg (by omega), rF_wF, if_pos ⟨rfl, rfl⟩]; rfl) (by rw [rF_wF, if_neg (by omega), rF_wF, if_pos ⟨rfl, rfl⟩]; rfl) (by rw [rF_wF, if_pos ⟨rfl, rfl⟩]) (fun k hk => by omega)
  exact ⟨M', r, RQ_trans h1 q1, q2⟩
/-- the first error, as the model tells it -/
theorem mfe_eq {M : MS} {b : Nat → Int32} {t : Nat} (hm : MT M t b) (hb : BV b t) (ht : t ≤ 60) : ∃ M', F_X5_firstError M = some (aw b t 0 0, M') ∧ RQ (wF M 80 220 0) M' := by
  obtain ⟨M', r, q1, q2⟩ := rb_eq (M := wF M 80 220 0) ⟨by rw [rF_wF, if_neg (by omega)]; exact hm.1, hm.2⟩ hb ht
  rw [F_X5_firstError, nm_k, r, bd2_s]
  refine ⟨M', ?_, q1⟩
  rw [Nat.sub_zero] at q2
  rcases q2 with ⟨a1, a2, _⟩ | ⟨a1, a2, j, hj, a3⟩
  · rw [a2, if_neg (by decide), q1.1 86 220 (by omega), rF_wF, if_neg (by omega), hm.1, aw_5 t 0 0 a1, Nat.zero_add]
  · rw [a2, a3, if_pos (ne1 _ (by omega))]
