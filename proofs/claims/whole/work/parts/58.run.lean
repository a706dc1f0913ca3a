/-! the orders of a text are done: the model -/
theorem macts_eq {M : MS} {z : Nat → Int32} {kd : Int32} {g c r : Nat} (hm : rA M 221 = z) (hz : ZW z) (ht : TH z) (hg : g ≤ 9) (hc : c < 4) (hr : r ≤ 5) : ∃ M', F_X5_acts M kd (nI g) (nI c) (nI r) = some (if zcf z kd g = true then 1 else 0, M') ∧ FQ M M' ∧ rA M' 221 = if zcf z kd g = true then zdA z kd (nI g) c r else z := by
  have key : ∀ (hx : xok z kd (nI g)), ∃ M', (bd (F_X5_canAct M kd (nI g)) fun r11 => (if r11 = 0 then (if (0 : Int32) = 0 then (gdb ((0 : Int32) == 0 || (0 : Int32) == 1) (some ((0 : Int32), M))) else (bd2 (F_X5_act M kd (nI g) (nI c) (nI r)) fun r7 M6 => (gdb ((0 : Int32) == 0 || (0 : Int32) == 1) (some ((0 : Int32), M6))))) else (if (1 : Int32) = 0 then (gdb ((1 : Int32) == 0 || (1 : Int32) == 1) (some ((1 : Int32), M))) else (bd2 (F_X5_act M kd (nI g) (nI c) (nI r)) fun r7 M6 => (gdb ((1 : Int32) == 0 || (1 : Int32) == 1) (some ((1 : Int32), M6))))))) = some (if zcx z kd (nI g) = true then 1 else 0, M') ∧ FQ M M' ∧ rA M' 221 = if zcx z kd (nI g) = true then zdA z kd (nI g) c r else z := by
    intro hx
    rw [mcx_eq hm hz ht hx, bd_s]
    by_cases e : zcx z kd (nI g) = true
    · obtain ⟨M', g1, g2, g3⟩ := mdx_eq (c := c) (r := r) hm hz ht hx hc hr rfl rfl e
      rw [if_pos e, if_neg (by decide), if_neg (by decide), g1, bd2_s, gdb_t (by decide), if_pos e]
      exact ⟨M', rfl, g2, g3⟩
    · rw [if_neg e, if_pos rfl, if_pos rfl, gdb_t (by decide), if_neg e]
      exact ⟨M, rfl, FQ_refl, hm⟩
  rw [F_X5_acts, nm_k, nm_k]
  by_cases e : kd = 1
  · have e2 : zcf z kd g = zcx z kd (nI g) := by unfold zcf; simp [e]
    rw [if_pos e, e2]
    exact key (Or.inl ⟨e, g, hg, rfl⟩)
  · rw [if_neg e]
    by_cases e3 : g < zn z
    · have e2 : zcf z kd g = zcx z kd (nI g) := by unfold zcf; simp [e3]
      rw [isF_yes (by rw [hm]; exact hz.1) (by rw [hm]; exact e3), bd_s, if_neg (by decide), e2]
      exact key (Or.inr ⟨e, g, e3, rfl⟩)
    · have e2 : zcf z kd g = false := by unfold zcf; simp [e, e3]
      rw [isF_no (Or.inr (by rw [hm, hz.1.1]; exact nI_le (by omega) (by omega))), bd_s, if_pos rfl]
      dsimp only
      rw [if_pos rfl, gdb_t (by decide), e2]
      exact ⟨M, by simp, FQ_refl, by simpa using hm⟩
theorem mends_eq {M : MS} {z : Nat → Int32} {a : Int32} (hm : rA M 221 = z) (hz : ZW z) (ht : TH z) : ∃ M', F_X5_ends M a = some (if z 2 = -1 then 0 else 1, M') ∧ FQ M M' ∧ rA M' 221 = if z 2 = -1 then z else if a = 0 then zen z else zde z := by
  rw [F_X5_ends, gd2, tn2, hm, nm_k]
  by_cases e : z 2 = -1
  · rw [if_pos e, if_pos e, if_pos e]
    dsimp only
    rw [nm_k, if_pos rfl, if_pos rfl, gdb_t (by decide)]
    exact ⟨M, rfl, FQ_refl, hm⟩
  · rw [if_neg e, if_neg e, if_neg e]
    dsimp only
    rw [nm_k, if_neg (show ¬ (1 : Int32) = 0 by decide), if_neg (show ¬ (1 : Int32) = 0 by decide)]
    by_cases e2 : a = 0
    · rw [if_pos e2, if_pos e2, men_eq hm hz ht e, bd_s, gdb_t (by decide)]
      exact ⟨_, rfl, FQ_mz, mz_z⟩
    · rw [if_neg e2, if_neg e2, mde_eq hm hz ht e, bd_s, gdb_t (by decide)]
      exact ⟨_, rfl, FQ_mz, mz_z⟩
theorem mcomes_eq {M : MS} {z : Nat → Int32} {g : Nat} (hm : rA M 221 = z) (hz : ZW z) (ht : TH z) (hg : g ≤ 9) : ∃ M', F_X5_comesIn M (nI g) = some (if (decide (g < zn z) && zci z g) = true then 1 else 0, M') ∧ FQ M M' ∧ rA M' 221 = if (decide (g < zn z) && zci z g) = true then zli z g else z := by
  rw [F_X5_comesIn]
  by_cases e3 : g < zn z
  · rw [isF_yes (by rw [hm]; exact hz.1) (by rw [hm]; exact e3), bd_s, nm_k, if_neg (by decide), mci_eq hm (by omega), bd_s]
    by_cases e : zci z g = true
    · have q : (decide (g < zn z) && zci z g) = true := by simp [e3, e]
      rw [if_pos e, if_neg (show ¬ (1 : Int32) = 0 by decide)]
      dsimp only
      rw [if_neg (show ¬ (1 : Int32) = 0 by decide), mli_eq hm hz ht e3 e, bd2_s, gdb_t (by decide), if_pos q, if_pos q]
      exact ⟨_, rfl, FQ_mz, mz_z⟩
    · have q : ¬ (decide (g < zn z) && zci z g) = true := by simp [e]
      rw [if_neg e, if_pos rfl]
      dsimp only
      rw [if_pos rfl, gdb_t (by decide), if_neg q, if_neg q]
      exact ⟨M, rfl, FQ_refl, hm⟩
  · rw [isF_no (Or.inr (by rw [hm, hz.1.1]; exact nI_le (by omega) (by omega))), bd_s, nm_k, if_pos rfl]
    have q : ¬ (decide (g < zn z) && zci z g) = true := by simp [e3]
    dsimp only
    rw [if_pos rfl, gdb_t (by decide), if_neg q, if_neg q]
    exact ⟨M, rfl, FQ_refl, hm⟩
theorem zoC_a {z : Nat → Int32} {c : Int32} {g : Nat} (e1 : ¬ c = 105) (e2 : ¬ c = 119) (e3 : ¬ c = 101) : zoC z c g = zcf z (zkd c) g := by unfold zoC; rw [if_neg e1, if_neg (fun q => q.elim e2 e3)]
theorem zoD_a {z : Nat → Int32} {c : Int32} {g q r : Nat} (e1 : ¬ c = 105) (e2 : ¬ c = 119) (e3 : ¬ c = 101) (e4 : ¬ c = 99) : zoD z c g q r = zdA z (zkd c) (nI g) 0 0 := by unfold zoD; rw [if_neg e1, if_neg e2, if_neg e3, if_neg e4]
theorem zoD_c {z : Nat → Int32} {c : Int32} {g q r : Nat} (e : c = 99) : zoD z c g q r = zdA z 3 (nI g) q r := by subst e; rfl
theorem zoC_i {z : Nat → Int32} {c : Int32} {g : Nat} (e : c = 105) : zoC z c g = (decide (g < zn z) && zci z g) := by subst e; rfl
theorem zoD_i {z : Nat → Int32} {c : Int32} {g q r : Nat} (e : c = 105) : zoD z c g q r = zli z g := by subst e; rfl
theorem zoC_w {z : Nat → Int32} {c : Int32} {g : Nat} (e : c = 119 ∨ c = 101) : zoC z c g = decide (¬ z 2 = -1) := by rcases e with e | e <;> subst e <;> rfl
theorem zoD_w {z : Nat → Int32} {c : Int32} {g q r : Nat} (e : c = 119) : zoD z c g q r = zde z := by subst e; rfl
theorem zoD_e {z : Nat → Int32} {c : Int32} {g q r : Nat} (e : c = 101) : zoD z c g q r = zen z := by subst e; rfl
theorem mdoes_eq {M : MS} {z b : Nat → Int32} {t p k : Nat} (hm : rA M 221 = z) (hz : ZW z) (ht : TH z) (hb : BV b t) (hk : k ≤ 31) (ho : (oe b t p).1 = true) (hs : stored (rA M 226) b k p) : ∃ M', F_X5_does M (nI k) = some (if zoC z (b p) (dv b (p + 1)) = true then 1 else 0, M') ∧ FQ M M' ∧ rA M' 221 = if zoC z (b p) (dv b (p + 1)) = true then zoD z (b p) (dv b (p + 1)) (dv b (p + 2)) (dv b (p + 3)) else z := by
  obtain ⟨hp, hkk⟩ := oe_d ho
  obtain ⟨s1, s2, s3⟩ := hs
  have hx : (4 : Int32) * nI k = nI (4 * k) := by rw [nI_lit 4, pk_mul]
  have hx2 : nI (4 * k) + (2 : Int32) = nI (4 * k + 2) := by rw [nI_lit 2, nI_add]
  have hx3 : nI (4 * k) + (3 : Int32) = nI (4 * k + 3) := by rw [nI_lit 3, nI_add]
  rw [F_X5_does, hx, nI_1, hx2, hx3, gdb_t (inb_nI (by omega) (by omega)), nm_k, gdb_t (inb_nI (by omega) (by omega)), nI_clamp (by omega), nI_clamp (by omega), nI_clamp (by omega), nI_clamp (by omega), s1]
  rcases hkk with ⟨k3, _⟩ | hkk
  · have hl : b p = 119 ∨ b p = 101 := by
      rcases kl_of (c := b p) with ⟨h, q⟩ | ⟨h, q⟩ | ⟨h2, q⟩ | ⟨h2, q⟩
      · omega
      · omega
      · exact q
      · omega
    have e1 : ¬ b p = 105 := by rcases hl with q | q <;> rw [q] <;> decide
    have e99 : ¬ b p = 99 := by rcases hl with q | q <;> rw [q] <;> decide
    rw [if_neg e99, zoC_w hl]
    by_cases e : b p = 101
    · have e2 : ¬ b p = 119 := by rw [e]; decide
      obtain ⟨M', g1, g2, g3⟩ := mends_eq (a := 0) hm hz ht
      rw [if_pos e, g1, bd2_s, zoD_e e]
      by_cases q : z 2 = -1
      · rw [if_pos q] at g3 ⊢
        rw [gdb_t (by decide)]
        exact ⟨M', by simp [q], g2, by simpa [q] using g3⟩
      · rw [if_neg q] at g3 ⊢
        rw [gdb_t (by decide)]
        exact ⟨M', by simp [q], g2, by simpa [q] using g3⟩
    · have e2 : b p = 119 := hl.resolve_right e
      obtain ⟨M', g1, g2, g3⟩ := mends_eq (a := 1) hm hz ht
      rw [if_neg e, if_neg (by rw [e2]; decide), if_neg (by rw [e2]; decide), if_neg (by rw [e2]; decide), if_pos e2, g1, bd2_s, zoD_w e2]
      by_cases q : z 2 = -1
      · rw [if_pos q] at g3 ⊢
        rw [gdb_t (by decide)]
        exact ⟨M', by simp [q], g2, by simpa [q] using g3⟩
      · rw [if_neg q, if_neg (by decide)] at g3
        rw [if_neg q, gdb_t (by decide)]
        exact ⟨M', by simp [q], g2, by simpa [q] using g3⟩
  · obtain ⟨hd, hk2, hpt⟩ : dgi (b (p + 1)) (nI 0) (nI 9) = true ∧ (kl (b p) = 1 ∨ kl (b p) = 2) ∧ p + 1 < t := by
      rcases hkk with ⟨a, b1, c, d⟩ | ⟨a, b1, c, d⟩
      · exact ⟨c, Or.inl a, b1⟩
      · exact ⟨c, Or.inr a, by omega⟩
    obtain ⟨v1, v2, v3, v4⟩ := dg_val hb hpt (by decide) (by decide) hd
    rw [s2 hk2, v3]
    rcases let_kinds hk2 with e | ⟨e1, e2, e3, e4⟩
    · obtain ⟨M', g1, g2, g3⟩ := mcomes_eq hm hz ht v2
      rw [if_neg (by rw [e]; decide), if_neg (by rw [e]; decide), if_neg (by rw [e]; decide), if_neg (by rw [e]; decide), if_neg (by rw [e]; decide), if_neg (by rw [e]; decide), g1, bd2_s, b01, zoC_i e, zoD_i e]
      exact ⟨M', rfl, g2, g3⟩
    · rw [zoC_a e1 e2 e3]
      by_cases e99 : b p = 99
      · have k2' : kl (b p) = 2 := by rw [e99]; decide
        obtain ⟨_, w1, w2, w3, w4, _⟩ : kl (b p) = 2 ∧ p + 3 < t ∧ dgi (b (p + 1)) (nI 0) (nI 9) = true ∧ dgi (b (p + 2)) (nI 0) (nI 3) = true ∧ dgi (b (p + 3)) (nI 1) (nI 5) = true ∧ (oe b t p).2 = p + 4 := by
          rcases hkk with ⟨a, _⟩ | q
          · omega
          · exact q
        have z3 : zkd (b p) = 3 := by rw [e99]; decide
        obtain ⟨u1, u2, u3, u4⟩ := dg_val hb (show p + 2 < t by omega) (by decide) (by decide) w3
        obtain ⟨t1, t2, t3, t4⟩ := dg_val hb w1 (by decide) (by decide) w4
        obtain ⟨M', g1, g2, g3⟩ := macts_eq (kd := 3) (c := dv b (p + 2)) (r := dv b (p + 3)) hm hz ht v2 (by omega) t2
        rw [if_pos e99, gdb_t (inb_nI (by omega) (by omega)), gdb_t (inb_nI (by omega) (by omega)), (s3 k2').1, (s3 k2').2, u3, t3, g1, bd2_s, b01, zoD_c e99, z3]
        exact ⟨M', rfl, g2, g3⟩
      · rw [if_neg e99, if_neg e3, zoD_a e1 e2 e3 e99]
        have four : b p = 104 ∨ b p = 109 ∨ b p = 115 := by
          rcases e4 with q | q | q | q
          · exact Or.inr (Or.inr q)
          · exact Or.inr (Or.inl q)
          · exact Or.inl q
          · exact absurd q e99
        obtain ⟨M', g1, g2, g3⟩ := macts_eq (kd := zkd (b p)) (c := 0) (r := 0) hm hz ht v2 (by decide) (by decide)
        rcases four with q | q | q
        · have zk : zkd (b p) = 2 := by rw [q]; decide
          rw [zk] at g1 g3 ⊢
          rw [if_pos q, show F_X5_acts M 2 (nI (dv b (p + 1))) 0 0 = _ from g1, bd2_s, b01]
          exact ⟨M', rfl, g2, g3⟩
        · have zk : zkd (b p) = 1 := by rw [q]; decide
          rw [zk] at g1 g3 ⊢
          rw [if_neg (by rw [q]; decide), if_pos q, show F_X5_acts M 1 (nI (dv b (p + 1))) 0 0 = _ from g1, bd2_s, b01]
          exact ⟨M', rfl, g2, g3⟩
        · have zk : zkd (b p) = 0 := by rw [q]; decide
          rw [zk] at g1 g3 ⊢
          rw [if_neg (by rw [q]; decide), if_neg (by rw [q]; decide), if_pos q, show F_X5_acts M 0 (nI (dv b (p + 1))) 0 0 = _ from g1, bd2_s, b01]
          exact ⟨M', rfl, g2, g3⟩
noncomputable def zrun (b : Nat → Int32) (t : Nat) : Nat → Nat → (Nat → Int32) → Nat × (Nat → Int32)
  | 0, k, z => (k, z)
  | d + 1, k, z => if zoC z (b (os b t k)) (dv b (os b t k + 1)) = true then zrun b t d (k + 1) (zoD z (b (os b t k)) (dv b (os b t k + 1)) (dv b (os b t k + 2)) (dv b (os b t k + 3))) else (k, z)
theorem zoD_okp {z b : Nat → Int32} {t p : Nat} (hz : ZW z) (ht : TH z) (hb : BV b t) (ho : (oe b t p).1 = true) (h : zoC z (b p) (dv b (p + 1)) = true) : ZW (zoD z (b p) (dv b (p + 1)) (dv b (p + 2)) (dv b (p + 3))) ∧ TH (zoD z (b p) (dv b (p + 1)) (dv b (p + 2)) (dv b (p + 3))) := by
  obtain ⟨hp, hkk⟩ := oe_d ho
  refine zoD_ok hz ht (fun q1 q2 q3 => ?_) (fun q => ?_) h
  · rcases hkk with ⟨k3, _⟩ | ⟨a, b1, c, d⟩ | ⟨a, b1, c, d⟩
    · rcases kl_of (c := b p) with ⟨h, q⟩ | ⟨h, q⟩ | ⟨h2, q⟩ | ⟨h2, q⟩
      · omega
      · omega
      · rcases q with q | q
        · exact absurd q q2
        · exact absurd q q3
      · omega
    · exact (dg_val hb b1 (by decide) (by decide) c).2.1
    · exact (dg_val hb (show p + 1 < t by omega) (by decide) (by decide) c).2.1
  · have k2' : kl (b p) = 2 := by rw [q]; decide
    rcases hkk with ⟨k3, _⟩ | ⟨a, _⟩ | ⟨a, w1, w2, w3, w4, _⟩
    · omega
    · omega
    · exact ⟨(dg_val hb (show p + 2 < t by omega) (by decide) (by decide) w3).2.1, (dg_val hb w1 (by decide) (by decide) w4).2.1⟩
theorem OK2_at {r b : Nat → Int32} {t N k : Nat} (h : OK2 r b t N) (hk : k < N) : stored r b k (os b t k) ∧ (oe b t (os b t k)).1 = true ∧ os b t k ≤ t := by
  obtain ⟨n, e, h1, h2, h3, h4, h5⟩ := h
  by_cases q : k < n
  · exact ⟨(h1 k q).1, (h1 k q).2.1, (h1 k q).2.2.1⟩
  · have : k = n := by omega
    subst this
    exact ⟨h2, h3, h4⟩
theorem zrun_ok {r b : Nat → Int32} {t N : Nat} (hb : BV b t) (h : OK2 r b t N) : ∀ d k (z : Nat → Int32), k + d = N → ZW z → TH z → ZW (zrun b t d k z).2 ∧ TH (zrun b t d k z).2 := by
  intro d
  induction d with
  | zero => intro k z _ hz ht; exact ⟨hz, ht⟩
  | succ d ih =>
    intro k z hk hz ht
    obtain ⟨_, o1, o2⟩ := OK2_at h (show k < N by omega)
    rw [zrun]
    by_cases e : zoC z (b (os b t k)) (dv b (os b t k + 1)) = true
    · rw [if_pos e]
      obtain ⟨a, c⟩ := zoD_okp hz ht hb o1 e
      exact ih (k + 1) _ (by omega) a c
    · rw [if_neg e]; exact ⟨hz, ht⟩
theorem mrun_l {r b : Nat → Int32} {t N : Nat} (hb : BV b t) (hN : N ≤ 31) (h : OK2 r b t N) : ∀ d k f (M : MS) (z : Nat → Int32), k + d = N → d < f → rA M 221 = z → ZW z → TH z → rF M 90 220 = nI N → rA M 226 = r → ∃ M', F_X5_run_l32 f (nI k) M = some (nI (zrun b t d k z).1, wF M' 86 220 0) ∧ FQ M M' ∧ rA M' 221 = (zrun b t d k z).2 := by
  intro d
  induction d with
  | zero =>
    intro k f M z hk hf hm hz ht h90 hr
    obtain ⟨f, rfl⟩ : ∃ q, f = q + 1 := ⟨f - 1, by omega⟩
    rw [F_X5_run_l32, nm_k, h90, if_pos (nI_le (by omega) (by omega))]
    exact ⟨M, rfl, FQ_refl, hm⟩
  | succ d ih =>
    intro k f M z hk hf hm hz ht h90 hr
    obtain ⟨f, rfl⟩ : ∃ q, f = q + 1 := ⟨f - 1, by omega⟩
    obtain ⟨o0, o1, o2⟩ := OK2_at h (show k < N by omega)
    obtain ⟨M1, g1, g2, g3⟩ := mdoes_eq (k := k) hm hz ht hb (by omega) o1 (by rw [hr]; exact o0)
    rw [F_X5_run_l32, nm_k, h90, if_neg (nI_ge (by omega) (by omega)), g1, bd2_s, zrun]
    dsimp only
    by_cases e : zoC z (b (os b t k)) (dv b (os b t k + 1)) = true
    · rw [if_pos e] at g3
      obtain ⟨a, c⟩ := zoD_okp hz ht hb o1 e
      rw [if_pos e, if_neg (by decide), nm_k, nI_1, if_pos e]
      obtain ⟨M2, k1, k2, k3⟩ := ih (k + 1) f M1 _ (by omega) (by omega) g3 a c (by rw [g2.1 90 220 (by omega)]; exact h90) (by rw [g2.2.1 226 (by decide) (by decide)]; exact hr)
      exact ⟨M2, k1, FQ_trans g2 k2, k3⟩
    · rw [if_neg e] at g3
      rw [if_neg e, if_pos rfl, if_neg e]
      exact ⟨M1, rfl, g2, g3⟩
/-- the class -/
theorem no59 {b : Nat → Int32} {t p : Nat} (hb : BV b t) (ho : (oe b t p).1 = true) : ∀ i, p ≤ i → i < (oe b t p).2 → ¬ b i = 59 := by
  obtain ⟨hp, hkk⟩ := oe_d ho
  have hd : ∀ i l h, l ≤ 9 → h ≤ 9 → i < t → dgi (b i) (nI l) (nI h) = true → ¬ b i = 59 := by
    intro i l h hl hh hi hd e
    obtain ⟨v1, v2, v3, v4⟩ := dg_val hb hi hl hh hd
    rw [v4] at e
    have := (nI_eq (a := 48 + dv b i) (b := 59) (by omega) (by decide)).mp e
    omega
  have hl : ¬ kl (b p) = 0 → ¬ b p = 59 := fun q e => q (by rw [e]; decide)
  intro i h1 h2
  rcases hkk with ⟨k3, e⟩ | ⟨k1, b1, c, e⟩ | ⟨k2, b1, c1, c2, c3, e⟩
  · have : i = p := by omega
    subst this
    exact hl (by omega)
  · by_cases q : i = p
    · subst q; exact hl (by omega)
    · have : i = p + 1 := by omega
      subst this
      exact hd _ 0 9 (by decide) (by decide) b1 c
  · by_cases q : i = p
    · subst q; exact hl (by omega)
    by_cases q : i = p + 1
    · subst q; exact hd _ 0 9 (by decide) (by decide) (by omega) c1
    by_cases q : i = p + 2
    · subst q; exact hd _ 0 3 (by decide) (by decide) (by omega) c2
    · have : i = p + 3 := by omega
      subst this
      exact hd _ 1 5 (by decide) (by decide) b1 c3
theorem cskip {M : MS} {b : Nat → Int32} {t : Nat} {a : Int32} (hc : CT M t b) (h60 : t ≤ 60) : ∀ j x f, 1 ≤ x → x + j ≤ t ∨ j = 0 → (∀ i, x ≤ i → i < x + j → ¬ b (i - 1) = 59) → F_X4_run_l18 (f + j) a (nI x) M = F_X4_run_l18 f a (nI (x + j)) M := by
  intro j
  induction j with
  | zero => intro x f _ _ _; rfl
  | succ j ih =>
    intro x f hx hj hn
    have hx1 : nI x - 1 = nI (x - 1) := by
      obtain ⟨y, rfl⟩ : ∃ y, x = y + 1 := ⟨x - 1, by omega⟩
      rw [nI_pred]; rfl
    have h1 := hn x (Nat.le_refl _) (by omega)
    rw [show f + (j + 1) = (f + j) + 1 by omega, F_X4_run_l18, nm_k, hc.1, if_neg (nI_ge (by omega) (by omega)), F_X1_isOrderAt, if_neg (nI_ne0 (by omega) (by omega)), hx1, code_l hc h60 (by omega), bd_s, if_pos h1, bd_s, if_pos rfl, nm_k, nI_1, ih (x + 1) f (by omega) (by omega) (fun i h1 h2 => hn i (by omega) (by omega)), show x + (j + 1) = x + 1 + j by omega]
theorem CT_CR {M0 M : MS} {R z b : Nat → Int32} {t : Nat} (h : CR M0 0 R M z) (hc : CT M0 t b) : CT M t b := ⟨by rw [h.2.2.1.1 17 218 (by omega)]; exact hc.1, fun i hi => by rw [h.2.2.1.2.1 219 (by omega)]; exact hc.2 i hi⟩
theorem crun_l {r b : Nat → Int32} {t N : Nat} {M0 : MS} (hb : BV b t) (h60 : t ≤ 60) (hc0 : CT M0 t b) (h : OK2 r b t N) : ∀ d k f (M : MS) (R z : Nat → Int32), k + (d + 1) = N → t + 5 ≤ os b t k + f → CR M0 0 R M z → ZW z → TH z → ∃ M' R', F_X4_run_l18 f (nI k) (nI (os b t k)) M = some (0, nI (zrun b t (d + 1) k z).1, wF M' 17 218 0) ∧ CR M0 0 R' M' (zrun b t (d + 1) k z).2 := by
  have hat : ∀ k M R z, k < N → CR M0 0 R M z → F_X1_isOrderAt M (nI (os b t k)) = some 1 := by
    intro k M R z hk hcr
    cases k with
    | zero => rw [os, F_X1_isOrderAt, if_pos (show nI 0 = 0 from rfl)]
    | succ k =>
      obtain ⟨n, e, h1, h2, h3, h4, h5⟩ := h
      obtain ⟨_, a1, a2, a3, a4⟩ := h1 k (by omega)
      have e1 : nI (os b t (k + 1)) - 1 = nI (oe b t (os b t k)).2 := by rw [os, nI_pred]
      rw [F_X1_isOrderAt, if_neg (nI_ne0 (by rw [os]; omega) (by rw [os]; omega)), e1, code_l (CT_CR hcr hc0) h60 a3, bd_s, if_neg (fun q => q a4)]
  intro d
  induction d with
  | zero =>
    intro k f M R z hk hf hcr hz ht
    obtain ⟨n, e, h1, h2, h3, h4, h5⟩ := id h
    have hkn : k = n := by omega
    subst hkn
    have hct := CT_CR hcr hc0
    have hlt := oe_lt h3
    obtain ⟨f, rfl⟩ : ∃ q, f = q + 1 := ⟨f - 1, by omega⟩
    rw [F_X4_run_l18, nm_k, nm_k, hct.1, if_neg (nI_ge (by omega) (by omega)), hat k M R z (by omega) hcr, bd_s, if_neg (by decide), cop_l hcr.2.1 hz ht hct hb h60 h3, bd_s, zrun]
    by_cases q : zoC z (b (os b t k)) (dv b (os b t k + 1)) = true
    · obtain ⟨M', R', g1, g2⟩ := cod_l hcr hz ht hct hb h60 h3 q
      have hct' := CT_CR g2 hc0
      rw [if_pos q, if_pos (by decide), g1, bd_s, nm_k, nm_k, nI_1, nI_1, if_pos q, zrun]
      obtain ⟨j, hj⟩ : ∃ j, os b t k + 1 + j = t := ⟨t - (os b t k + 1), by omega⟩
      obtain ⟨f', rfl⟩ : ∃ f', f = f' + 1 + j := ⟨f - 1 - j, by omega⟩
      rw [cskip hct' h60 j (os b t k + 1) (f' + 1) (by omega) (by omega) (fun i i1 i2 => no59 hb h3 (i - 1) (by omega) (by omega)), hj, F_X4_run_l18, nm_k, hct'.1, if_pos (nI_le (Nat.le_refl _) (by omega)), nm_k]
      exact ⟨M', R', rfl, g2⟩
    · rw [if_neg q, if_neg (by decide), if_neg q]
      exact ⟨M, R, rfl, hcr⟩
  | succ d ih =>
    intro k f M R z hk hf hcr hz ht
    obtain ⟨n, e, h1, h2, h3, h4, h5⟩ := id h
    obtain ⟨_, a1, a2, a3, a4⟩ := h1 k (by omega)
    have hct := CT_CR hcr hc0
    have hlt := oe_lt a1
    obtain ⟨f, rfl⟩ : ∃ q, f = q + 1 := ⟨f - 1, by omega⟩
    rw [F_X4_run_l18, nm_k, nm_k, hct.1, if_neg (nI_ge (by omega) (by omega)), hat k M R z (by omega) hcr, bd_s, if_neg (by decide), cop_l hcr.2.1 hz ht hct hb h60 a1, bd_s, zrun]
    by_cases q : zoC z (b (os b t k)) (dv b (os b t k + 1)) = true
    · obtain ⟨M', R', g1, g2⟩ := cod_l hcr hz ht hct hb h60 a1 q
      have hct' := CT_CR g2 hc0
      obtain ⟨w1, w2⟩ := zoD_okp hz ht hb a1 q
      rw [if_pos q, if_pos (by decide), g1, bd_s, nm_k, nm_k, nI_1, nI_1, if_pos q]
      obtain ⟨j, hj⟩ : ∃ j, os b t k + 1 + j = os b t (k + 1) := ⟨(oe b t (os b t k)).2 + 1 - (os b t k + 1), by rw [os]; omega⟩
      have hos : os b t (k + 1) = (oe b t (os b t k)).2 + 1 := rfl
      obtain ⟨f', rfl⟩ : ∃ f', f = f' + j := ⟨f - j, by omega⟩
      rw [cskip hct' h60 j (os b t k + 1) f' (by omega) (by omega) (fun i i1 i2 => no59 hb a1 (i - 1) (by omega) (by omega)), hj]
      exact ih (k + 1) f' M' R' _ (by omega) (by omega) g2 w1 w2
    · rw [if_neg q, if_neg (by decide), if_neg q]
      exact ⟨M, R, rfl, hcr⟩
