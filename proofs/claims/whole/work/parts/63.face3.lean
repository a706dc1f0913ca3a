/-! undo -/
theorem go_thr2 {C : MS → Option (Nat × Int32 × MS)} {hs : List (Nat × Int32)} {F : MS → Option (Int32 × MS)} {z : Nat → Int32} {m : Nat} {sv : Nat → Nat → Int32} {t : Nat} {b : Nat → Int32} (kc k : Nat) (hp : PI z m sv t) (hb : BV b t) (hc : ∀ M, CI M z m sv t b → C M = some (kc, 0, M)) (hm : MOK F z m sv t b k 0 z m sv t b) (hk : kc ≠ 0) (h1 : hsel hs kc = some (nI k)) (h0 : ¬ nI k = 0) : GOA C hs F z m sv t b :=
  ⟨kc, k, 0, 0, z, m, sv, t, b, fun M h => ⟨M, hc M h, h, MPart_refl⟩, hm, hp, hb, Or.inr ⟨hk, h1, h0⟩⟩
theorem save_fr {M : MS} {z : Nat → Int32} {m : Nat} {sv : Nat → Nat → Int32} {t : Nat} {b : Nat → Int32} (h : MI M z m sv t b) (hm6 : m ≤ 6) : ∃ M', F_X5_save M = some M' ∧ ∀ v, v ≠ 222 → rA M' v = rA M v := by
  have one : ∀ (M : MS) (m : Nat), m < 6 → rA M 221 = z → rF M 83 220 = nI m → ∃ M', F_X5_save_l52 FU 0 M = some M' ∧ ∀ v, v ≠ 222 → rA M' v = rA M v := by
    intro M m h6 hz hm
    have k1 := msv_l (M := M) (z := z) (w := rA M 222) (m := m) hz hm h6 186 0 FU (by omega) (by rw [FU_s]; omega)
    have e0 : cpw (rA M 222) z m 0 = rA M 222 := by funext j; unfold cpw; rw [if_neg (by omega)]
    rw [e0, pr_self] at k1
    exact ⟨_, k1, fun v hv => by rw [rA_wF, pr_An hv]⟩
  rw [F_X5_save, nm_k]
  by_cases h6 : m < 6
  · rw [if_pos (show ¬ rF M 83 220 = 6 by rw [h.2.1]; exact fun q => absurd ((nI_eq (a := m) (b := 6) (by omega) (by decide)).mp q) (by omega))]
    exact one M m h6 h.1 h.2.1
  · have e6 : m = 6 := by omega
    subst e6
    obtain ⟨a, b1, c1, d, e⟩ := h
    have b1' : rF M 83 220 = 6 := b1
    have h1 := msh_l (w := rA M 222) (K := fun M1 => F_X5_save_l52 FU 0 M1) b1' 930 0 FU (by omega) (by rw [FU_s]; omega)
    have e0 : shw (rA M 222) 0 = rA M 222 := by funext j; unfold shw; rw [if_neg (by omega)]
    rw [e0, pr_self] at h1
    rw [if_neg (fun q => q b1')]
    obtain ⟨M', g1, g2⟩ := one (wF (pr M 222 (shw (rA M 222) 930)) 83 220 5) 5 (by decide) (by rw [rA_wF, pr_An (by decide), a]) rF_self
    exact ⟨M', h1.trans g1, fun v hv => by rw [g2 v hv, rA_wF, pr_An hv]⟩
theorem s_undo : SOK (fun M => F_X4_undo M) [(2, (1 : Int32))] (fun M => F_X5_undo M) := by
  refine sok_of (fun z m sv t b hp hb => ?_)
  obtain ⟨hz, ht, hm6, hsv, h60⟩ := id hp
  cases m with
  | zero =>
    refine go_thr 2 1 hp hb (fun M h => ?_) (fun M h => ?_) (by decide) (by decide) (by decide)
    · try dsimp only
      rw [F_X4_undo, h.2.1, nm_k, if_pos (show nI 0 ≤ 0 by decide)]
      try dsimp only
      rw [rqS0]
    · try dsimp only
      rw [F_X5_undo, h.2.1, nm_k, if_neg (fun q => q rfl)]
      try dsimp only
      rw [nm_k, th_1]
  | succ m =>
    obtain ⟨v1, v2⟩ := hsv m (by omega)
    refine go_ok (r := nI m) (z' := sv m) (m' := m) (sv' := sv) (fun M h => ?_) (fun M h => ?_) ⟨v1, v2, by omega, fun i hi => hsv i (by omega), h60⟩ hb
    · try dsimp only
      obtain ⟨M', g1, g2, g3, g4⟩ := cundo_eq h hp
      have e1 : ¬ rF M 67 216 ≤ 0 := by rw [h.2.1]; exact nI_ge (a := 0) (by omega) (by omega)
      have e2 : ¬ (6 : Int32) < rF M 67 216 := by rw [h.2.1]; exact nI_nlt (a := 6) (by omega) (by decide)
      rw [F_X4_undo, nm_k, if_neg e1, if_neg e2]
      try dsimp only
      rw [rqS1]
      exact ⟨M', g1, g2, g3⟩
    · try dsimp only
      obtain ⟨a, b1, c1, d, e⟩ := id h
      have hs : ∀ j, j < 186 → rA (wF (wF M 80 220 0) 83 220 (nI m)) 222 (186 * m + j) = sv m j := fun j hj => c1 m (by omega) j hj
      have k1 := mund_l (M := wF (wF M 80 220 0) 83 220 (nI m)) (y := z) (s := sv m) (m := m) rF_self (by omega) hs 186 0 FU (by omega) (by rw [FU_s]; omega)
      have e0 : mz (wF (wF M 80 220 0) 83 220 (nI m)) (cpz z (sv m) 0) = wF (wF M 80 220 0) 83 220 (nI m) := by
        have q : cpz z (sv m) 0 = rA (wF (wF M 80 220 0) 83 220 (nI m)) 221 := by
          rw [rA_wF, rA_wF, a]
          funext j
          unfold cpz
          rw [if_neg (by omega)]
        rw [q, mz_self]
      rw [e0, cpz_all hz.2.2 v1.2.2] at k1
      have e83 : rF (wF M 80 220 0) 83 220 - 1 = nI m := by rw [rF_wF, if_neg (by decide), b1, nI_pred]
      have k1' : F_X5_undo_l37 FU 0 (wF (wF M 80 220 0) 83 220 (nI m)) = _ := k1
      refine ⟨mz (wF (wF M 80 220 0) 83 220 (nI m)) (sv m), ?_, ?_, ?_, ?_⟩
      · rw [F_X5_undo, b1, nm_k, if_pos (nI_ne0 (by omega) (by omega))]
        try dsimp only
        rw [nm_k, th_0, nm_k, e83, k1']
      · refine ⟨mz_z, ?_, fun i hi j hj => ?_, ?_, fun i hi => ?_⟩
        · rw [mz_F, rF_self]
        · rw [mz_ne (by decide)]; exact c1 i (by omega) j hj
        · rw [mz_F, rF_wF, if_neg (by decide), rF_wF, if_neg (by decide)]; exact d
        · rw [mz_ne (by decide)]; exact e i hi
      · exact CPart_trans (CPart_trans CPart_80 CPart_80) CPart_mz
      · rw [mz_F, rF_wF, if_neg (by decide), rF_self]; rfl
/-! the buffer -/
theorem CI_txt {M M1 : MS} {z : Nat → Int32} {m t t' : Nat} {sv : Nat → Nat → Int32} {b b' : Nat → Int32} (h : CI M z m sv t b) (hp : PI z m sv t) (h1 : ∀ c v, v ≠ 218 → rF M1 c v = rF M c v) (h2 : ∀ v, v ≠ 219 → rA M1 v = rA M v) (h3 : M1.2.2 = M.2.2) (h4 : CT M1 t' b') : CI M1 z m sv t' b' := by
  obtain ⟨a, b1, ⟨c1, c2⟩, d, _, f⟩ := h
  have hm := hp.2.2.1
  have hs : ∀ i, rS M1 i = rS M i := fun i => by unfold rS; rw [h3]
  refine ⟨CZ_same a (fun c u _ q => h1 c u (by omega)) (fun u _ q => h2 u (by omega)) hp.1.1.2.1, by rw [h1 67 216 (by decide), b1], ⟨fun i hi => by rw [hs]; exact c1 i hi, fun i j hi hj => by rw [hs, hs]; exact c2 i j hi hj⟩, fun i hi => ?_, h4, fun k hk => ⟨by rw [h1 2 _ (by omega)]; exact (f k hk).1, by rw [h1 7 _ (by omega)]; exact (f k hk).2⟩⟩
  have := c1 i (by omega)
  rw [hs]
  exact CZ_same (d i hi) (fun c u _ q => h1 c u (by omega)) (fun u _ q => h2 u (by omega)) (hp.2.2.2.1 i hi).1.1.2.1
theorem s_append (a : Int32) : SOK (fun M => F_X4_append M a) [(1, (1 : Int32)), (2, (2 : Int32))] (fun M => F_X5_append M a) := by
  refine sok_of (fun z m sv t b hp hb => ?_)
  obtain ⟨hz, ht, hm6, hsv, h60⟩ := id hp
  by_cases hw : wi a 33 126 = true
  · obtain ⟨n, hn1, hn2, en⟩ := wi_n (l := 33) (h := 126) hw (by decide) (by decide)
    by_cases hf : t = 60
    · refine go_thr 2 2 hp hb (fun M h => ?_) (fun M h => ?_) (by decide) (by decide) (by decide)
      · try dsimp only
        rw [F_X4_append, isW_t hw, bd_s, rqA1, h.2.2.2.2.1.1, nm_k, if_pos (show (60 : Int32) ≤ nI t from nI_le (a := 60) (by omega) (by omega))]
        try dsimp only
        rw [rqS0]
      · try dsimp only
        rw [F_X5_append, in_t hw, bd_s, nm_k, if_pos (by decide), h.2.2.2.1, hf, if_neg (fun q => q rfl)]
        try dsimp only
        rw [nm_k, th_2]
    · have hlt : t < 60 := by omega
      refine go_ok (r := nI (t + 1)) (z' := z) (m' := m) (sv' := sv) (t' := t + 1) (b' := upd b t a) (fun M h => ?_) (fun M h => ?_) ⟨hz, ht, hm6, hsv, by omega⟩ (fun i hi => ?_)
      · try dsimp only
        have e17 : rF M 17 218 = nI t := h.2.2.2.2.1.1
        refine ⟨wF (wA M 219 t a) 17 218 (nI (t + 1)), ?_, CI_txt h hp (fun c v hv => ?_) (fun v hv => ?_) rfl ⟨rF_self, fun i hi => ?_⟩, ⟨fun c => ?_, fun u hu => ?_, rfl⟩⟩
        · rw [F_X4_append, isW_t hw, bd_s, rqA1, e17, nm_k, if_neg (show ¬ (60 : Int32) ≤ nI t from nI_ge (b := 60) hlt (by decide))]
          try dsimp only
          rw [rqS1, F_X1_add, e17, if_neg (nI_pos (by omega)), if_neg (show ¬ (60 : Int32) ≤ nI t from nI_ge (b := 60) hlt (by decide)), gdb_t (inb_nI hlt (by decide)), nI_clamp (by omega), nm_k, nm_k, rF_wA, e17, nI_1, bd_s, rF_self]
        · rw [rF_wF, if_neg (fun q => hv q.2)]; rfl
        · rw [rA_wF, rA_wAn hv]
        · rw [rA_wF, rA_wA]
          by_cases q : i = t
          · subst q; rw [upd_s, upd_s]
          · rw [upd_n q, upd_n q]; exact h.2.2.2.2.1.2 i (by omega)
        · rw [rF_wF, if_neg (fun q => absurd q.2 (by decide))]; rfl
        · rw [rA_wF, rA_wAn (by omega)]
      · try dsimp only
        obtain ⟨a1, b1, c1, d, e⟩ := id h
        have e86 : rF (wF M 80 220 0) 86 220 = nI t := by rw [rF_wF, if_neg (by decide)]; exact d
        refine ⟨wF (wA (wF M 80 220 0) 224 t a) 86 220 (nI (t + 1)), ?_, ⟨a1, ?_, fun i hi j hj => ?_, rF_self, fun i hi => ?_⟩, ?_, ?_⟩
        · rw [F_X5_append, in_t hw, bd_s, nm_k, if_pos (by decide), d, if_pos (show ¬ nI t = 60 from fun q => hf ((nI_eq (a := t) (b := 60) (by omega) (by decide)).mp q))]
          try dsimp only
          rw [nm_k, th_0, e86, gdb_t (inb_nI hlt (by decide)), nI_clamp (by omega), nm_k, nm_k, rF_wA, e86, nI_1, rF_self]
        · rw [rF_wF, if_neg (by decide), rF_wA, rF_wF, if_neg (by decide)]; exact b1
        · rw [rA_wF, rA_wAn (by decide)]; exact c1 i hi j hj
        · rw [rA_wF, rA_wA]
          by_cases q : i = t
          · subst q; rw [upd_s, upd_s]
          · rw [upd_n q, upd_n q]; exact e i (by omega)
        · exact CPart_trans (CPart_trans CPart_80 (CPart_A (by decide))) CPart_80
        · rw [rF_wF, if_neg (by decide), rF_wA, rF_self]; rfl
      · by_cases q : i = t
        · subst q; rw [upd_s]; exact ⟨n, hn1, hn2, en⟩
        · rw [upd_n q]; exact hb i (by omega)
  · refine go_thr 1 1 hp hb (fun M h => ?_) (fun M h => ?_) (by decide) (by decide) (by decide)
    · try dsimp only
      rw [F_X4_append, isW_f hw, bd_s, rqA0]
    · try dsimp only
      rw [F_X5_append, in_f hw, bd_s, nm_k, if_neg (by decide)]
      try dsimp only
      rw [nm_k, th_1]
theorem MI_RQ {M M1 : MS} {z : Nat → Int32} {m t : Nat} {sv : Nat → Nat → Int32} {b : Nat → Int32} (h : MI M z m sv t b) (hq : RQ M M1) : MI M1 z m sv t b := by
  obtain ⟨a, b1, c1, d, e⟩ := h
  exact ⟨by rw [hq.2.1 221 (by decide)]; exact a, by rw [hq.1 83 220 (by omega)]; exact b1, fun i hi j hj => by rw [hq.2.1 222 (by decide)]; exact c1 i hi j hj, by rw [hq.1 86 220 (by omega)]; exact d, fun i hi => by rw [hq.2.1 224 (by decide)]; exact e i hi⟩
theorem CPart_RQ {M M1 : MS} (h : RQ M M1) : CPart M M1 := ⟨fun c v hv => h.1 c v (by omega), fun v hv => h.2.1 v (by omega), fun i => by unfold rS; rw [h.2.2], by unfold rO; rw [h.2.2]⟩
/-! a text's orders are done -/
theorem OK2_all {b : Nat → Int32} {t : Nat} {z : Nat → Int32} {m : Nat} {sv : Nat → Nat → Int32} (hb : BV b t) (hp : PI z m sv t) (h5 : ae b t 0 0 = 5) : ∃ r N, N ≤ 31 ∧ OK2 r b t N := by
  obtain ⟨M', g1, g2, g3⟩ := rb_eq (M := (fun _ _ => nI t, fun _ => b, fun _ => 0, 0, 0)) (b := b) (t := t) ⟨rfl, fun i _ => rfl⟩ hb hp.2.2.2.2
  rw [Nat.sub_zero] at g3
  rcases g3 with ⟨_, _, N, n1, _, n2⟩ | ⟨q, _⟩
  · exact ⟨_, N, n1, n2⟩
  · exact absurd h5 q
theorem OK2_N {r r' b : Nat → Int32} {t N N' : Nat} (h : OK2 r b t N) (h' : OK2 r' b t N') : N = N' := by
  obtain ⟨n, e, a1, a2, a3, a4, a5⟩ := h
  obtain ⟨n', e', a1', a2', a3', a4', a5'⟩ := h'
  rcases (show n < n' ∨ n' < n ∨ n = n' by omega) with q | q | q
  · have := (a1' n q).2.2.2.1; omega
  · have := (a1 n' q).2.2.2.1; omega
  · omega
theorem s_run : SOK (fun M => F_X4_run M) [(1, (1 : Int32))] (fun M => F_X5_run M) := by
  refine sok_of (fun z m sv t b hp hb => ?_)
  obtain ⟨hz, ht, hm6, hsv, h60⟩ := id hp
  by_cases h5 : ae b t 0 0 = 5
  · obtain ⟨r0, N, hN, hok⟩ := OK2_all hb hp h5
    obtain ⟨n, en, _⟩ := id hok
    obtain ⟨w1, w2⟩ := zrun_ok hb hok N 0 z (by omega) hz ht
    refine go_ok (r := nI (zrun b t N 0 z).1) (z' := (zrun b t N 0 z).2) (m' := svM m) (sv' := svS sv m z) (t' := 0) (b' := b) (fun M h => ?_) (fun M h => ?_) ⟨w1, w2, (PI_save hp).2.2.1, (PI_save hp).2.2.2.1, by decide⟩ (fun i hi => by omega)
    · try dsimp only
      have hct : CT M t b := h.2.2.2.2.1
      obtain ⟨M1, g1, g2, g3, g4⟩ := csave_eq h hp
      have hp1 := PI_save hp
      have hct1 : CT M1 t b := g2.2.2.2.2.1
      obtain ⟨M2, R', k1, k2⟩ := crun_l hb h60 hct1 hok n 0 FU M1 _ z (by omega) (by rw [FU_s, os]; omega) (CR_of g2 hp1) hz ht
      rw [← en] at k1 k2
      have k1' : F_X4_run_l18 FU 0 0 M1 = _ := k1
      refine ⟨wF M2 17 218 0, ?_, ?_, ?_⟩
      · rw [F_X4_run, cic_eq hct h60, bd_s, if_pos h5, rqA1, g1, bd_s, k1']
      · exact CI_txt (CI_now g2 hp1 k2) ⟨w1, w2, hp1.2.2⟩ (fun c v hv => by rw [rF_wF, if_neg (fun q => hv q.2)]) (fun v _ => rfl) rfl ⟨rF_self, fun i hi => by omega⟩
      · exact MPart_trans (MPart_trans g3 (MPart_CFR k2.2.2.1 (by decide))) (MPart_F (by decide))
    · try dsimp only
      obtain ⟨M2, g1, g2, g3⟩ := rb_eq (M := M) ⟨h.2.2.2.1, h.2.2.2.2⟩ hb h60
      rw [Nat.sub_zero] at g3
      obtain ⟨q1, N', n1, n2, n3⟩ : rF M2 92 220 = -1 ∧ ∃ N, N ≤ 31 ∧ rF M2 90 220 = nI N ∧ OK2 (rA M2 226) b t N := by
        rcases g3 with ⟨_, q, r⟩ | ⟨q, _⟩
        · exact ⟨q, r⟩
        · exact absurd h5 q
      have eN : N' = N := OK2_N n3 hok
      subst eN
      obtain ⟨M3, s1, s2, s3, s4⟩ := msave_eq (MI_80 (x := 0) (c := 80) (by decide) (MI_RQ h g2)) hm6
      have f226 : rA M3 226 = rA M2 226 := by
        obtain ⟨M3', e1, e2⟩ := save_fr (MI_80 (x := 0) (c := 80) (by decide) (MI_RQ h g2)) hm6
        have e3 : M3' = M3 := Option.some.inj (e1.symm.trans s1)
        rw [← e3, e2 226 (by decide), rA_wF]
      obtain ⟨M4, k1, k2, k3⟩ := mrun_l hb n1 n3 N' 0 FU M3 z (by omega) (by rw [FU_s]; omega) s2.1 hz ht (by rw [s4 90 (by decide), rF_wF, if_neg (by decide)]; exact n2) f226
      have k1' : F_X5_run_l32 FU 0 M3 = _ := k1
      refine ⟨wF M4 86 220 0, ?_, ?_, ?_, ?_⟩
      · rw [F_X5_run, g1, bd2_s]
        try dsimp only
        rw [nm_k, q1, if_neg (by decide)]
        try dsimp only
        rw [nm_k, th_0, s1, bd_s, k1']
      · obtain ⟨a1, b1, c1, d, e⟩ := MI_ch s2 k2 k3
        exact ⟨a1, by rw [rF_wF, if_neg (by decide)]; exact b1, c1, rF_self, fun i hi => by omega⟩
      · exact CPart_trans (CPart_trans (CPart_trans (CPart_trans (CPart_RQ g2) CPart_80) s3) (CPart_FQ k2)) CPart_80
      · rw [rF_wF, if_neg (by decide), k2.1 80 220 (by omega), s4 80 (by decide), rF_self]; rfl
  · refine go_thr2 1 1 hp hb (fun M h => ?_) (fun M h => ?_) (by decide) (by decide) (by decide)
    · try dsimp only
      rw [F_X4_run, cic_eq h.2.2.2.2.1 h60, bd_s, if_neg h5, rqA0]
    · try dsimp only
      obtain ⟨M2, g1, g2, g3⟩ := rb_eq (M := M) ⟨h.2.2.2.1, h.2.2.2.2⟩ hb h60
      rw [Nat.sub_zero] at g3
      have q1 : ¬ rF M2 92 220 = -1 := by
        rcases g3 with ⟨q, _⟩ | ⟨_, q2, j, hj, q3⟩
        · exact absurd q h5
        · rw [q2, q3]; exact ne1 _ (by omega)
      refine ⟨wF M2 80 220 (nI 1), ?_, MI_80 (by decide) (MI_RQ h g2), CPart_trans (CPart_RQ g2) CPart_80, rF_self⟩
      rw [F_X5_run, g1, bd2_s]
      try dsimp only
      rw [nm_k, if_pos q1]
      try dsimp only
      rw [nm_k, th_1]
