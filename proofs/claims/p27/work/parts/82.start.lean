/-! the law, from its start -/
def z00 : Nat → Int32 := fun j => if j = 2 then -1 else 0
theorem z00_n : zn z00 = 0 := rfl
theorem z00_w : ZW z00 := ⟨⟨by rw [z00_n]; rfl, by rw [z00_n]; decide, fun i hi => by rw [z00_n] at hi; omega, fun i j hi => by rw [z00_n] at hi; omega⟩, fun f hf => by rw [z00_n] at hf; omega, fun j hj => if_neg (by omega)⟩
theorem z00_p {sv : Nat → Nat → Int32} : PI z00 0 sv 0 := ⟨z00_w, Or.inl rfl, by decide, fun i hi => by omega, by decide⟩
theorem z00_c : CQ z00 := ⟨⟨rfl, rfl, rfl, rfl, rfl⟩, fun f hf => by rw [z00_n] at hf; omega, fun j hj => by rw [z00_n] at hj; omega⟩
theorem z00_M {sv : Nat → Nat → Int32} : CI M0 z00 0 sv 0 (fun _ => 0) := by
  have ej : ∀ j, j ≠ 2 → z00 j = 0 := fun j hj => if_neg hj
  have hF : ∀ c v, ¬ (c = 54 ∨ c = 8 ∨ c = 9 ∨ c = 10 ∨ c = 11) → rF M0 c v = 0 := fun c v h => if_neg h
  have hnb : ∀ v, NB M0 v := fun v => ⟨hF 2 _ (by decide), hF 7 _ (by decide)⟩
  refine ⟨⟨⟨?_, ?_, ?_, ?_, ?_, ?_⟩, ⟨?_, fun i hi => by rw [z00_n] at hi; omega⟩, fun f hf => by rw [z00_n] at hf; omega, hnb 0⟩, ?_, ⟨fun i hi => ?_, fun i j hi hj q => ?_⟩, fun i hi => by omega, ⟨?_, fun i hi => by omega⟩, fun k _ => hnb _⟩
  · rw [ej 0 (by decide)]; exact hF _ _ (by decide)
  · rw [ej 1 (by decide)]; exact hF _ _ (by decide)
  · rfl
  · rw [ej 3 (by decide)]; exact hF _ _ (by decide)
  · rw [ej 4 (by decide)]; exact hF _ _ (by decide)
  · rw [ej 5 (by decide)]; exact hF _ _ (by decide)
  · rw [ej 0 (by decide)]; exact hF _ _ (by decide)
  · exact hF _ _ (by decide)
  · show 2 ≤ i + 2 ∧ i + 2 < 8
    omega
  · have : i + 2 = j + 2 := q
    omega
  · exact hF _ _ (by decide)
theorem z00_b : zbegin z00 2 = -1 := by
  have hn : zn (zb1' z00) = 0 := by rw [(ZW_b1 z00_w).2]; rfl
  have ha : zall (zb1' z00) (zn (zb1' z00)) = true := by rw [hn]; rfl
  unfold zbegin
  rw [zgo, if_pos ha, upd_s]
set_option maxHeartbeats 8000000 in
theorem main_all {xs : Nat → Int32} {L : Nat} (hL : L ≤ 260) : F_L_main xs L M0 = some 1 := by
  obtain ⟨v, hv⟩ := cell_ok (xs := xs) (L := L) (j := 0) hL (by decide)
  have hv' : F_L_cell xs L 0 = some v := hv
  have h5 := lo_lt (v := v) (n := 5) (by decide)
  obtain ⟨n, hn⟩ : ∃ n, n = 2 + lo v 5 := ⟨_, rfl⟩
  have e0 : (2 : Int32) + nI (lo v 5) = nI n := by rw [nI_lit 2, nI_add, hn]
  have r3 : ∀ j, rA M0 223 j = 0 := fun j => rfl
  have lf0 : LF M0 (wA M0 223 0 (-1)) := LF_A (by decide)
  have c0 := CI_keep (z00_M (sv := fun _ _ => 0)) z00_p (CPart_LF lf0)
  obtain ⟨M1, a1, ⟨a2, a3⟩, a4⟩ := q_begin0 z00_p c0
  obtain ⟨M2, b1, ⟨b2, b3⟩, b4⟩ := q_undo (m := 0) a2 a3
  have eS : svS (fun _ _ => 0) 0 z00 0 = z00 := rfl
  rw [eS] at b2 b3
  obtain ⟨M3, z3, d1, d2, d3, d4, d5⟩ := come_ok (xs := xs) (n := n) hL (by omega) ⟨0, _, b2, b3⟩ z00_c z00_n
  have hp := MPart_trans (MPart_trans a4 b4) d5
  have hr : ∀ u, 220 ≤ u → rA M3 u = rA (wA M0 223 0 (-1)) u := fun u hu => hp.2.1 u hu
  have hP : LPR (wA M3 223 5 (nI n)) z3 0 := by
    refine ⟨fun f hf => by omega, fun f _ => ?_, fun k => ?_, fun f hf => by omega, ?_, fun j h1 h4 => ?_, ?_⟩
    · rw [rA_wAn (by decide), hr 220 (by decide), rA_wAn (by decide)]; rfl
    · rw [rA_wAn (by decide), hr 221 (by decide), rA_wAn (by decide)]; rfl
    · rw [rA_wA, upd_n (by decide), hr 223 (by decide), rA_wA, upd_s]
    · rw [rA_wA, upd_n (by omega), hr 223 (by decide), rA_wA, upd_n (by omega)]; rfl
    · rw [rA_wA, upd_s, d3]
  have hm := l85_ok (xs := xs) (L := L) (n := n) hL (by omega) (by omega) d3 d4 n 0 8 (wA M3 223 5 (nI n)) (by omega) (by omega) (SJ_LF d2 (LF_A (by decide))) hP
  rw [F_L_main, hv', bd_s, show F_L_low M0 v 5 = some (nI (lo v 5)) from low_ok (by decide) (by decide), bd_s, nm_k, e0, g70, tn0, nm_k, a1, bd2_s, z00_b, if_neg (fun q => q rfl), b1, bd0_s, if_neg (by decide), d1, bd2_s, if_pos (by decide), g75, tn5, nm_k]
  exact hm
