theorem vp_cellq {cA : ClassId} {n : Nat} {f g : Nat → Option Nat} (h : ∀ i, i < n → f i = g i) : vp_cell cA (n, .inr (.inr (.inr (.inr f)))) = vp_cell cA (n, .inr (.inr (.inr (.inr g)))) := by
  show arrV cA n (fun j => va_rf (f j)) = arrV cA n (fun j => va_rf (g j))
  unfold arrV
  congr 1
  apply Array.ext
  · simp
  · intro i h1 h2
    simp only [Array.getElem_ofFn]
    rw [h i (by simpa using h1)]
theorem posW_inj {i j : Nat} (hi : i < 224) (hj : j < 224) (h : posW i = posW j) : i = j := by
  have hn : va_nd ((List.range 224).map posW) = true := by decide +kernel
  exact va_nd_inj _ hn i j (posW i) (by simp [hi]) (by simp [hj, h])
section ST2
variable {D : va_G} {tR : ClassId} {q1 : Nat} {u : UT} {w : W4}
abbrev GS2 (D : va_G) (q1 : Nat) (u : UT) (w : W4) : GG := GS D u.2.2.2.2.1 u.2.2.2.2.2.1 u.2.2.2.2.2.2 q1 u w
theorem pos_any (hw : tR = u.2.2.2.2.1) {v : Nat} (hv : v < 224) : ∃ e : va_E, (allW q1 u w tR)[posW v]? = some (gad (GS2 D q1 u w) v, e) ∧ ∀ H, va_at D vwCl (gad (GS2 D q1 u w) v, e) H → va_at D vwCl (gad (GS2 D q1 u w) v, ent (GS2 D q1 u w) M0 v) H := by
  have hb : ∀ k j, k < 8 → j < 27 → gad (GS2 D q1 u w) (27 * k + j) = u.1 k j := fun k j hk hj => adG_b hk hj
  by_cases c1 : v < 216
  · obtain ⟨k, j, hk, hj, rfl⟩ : ∃ k j, k < 8 ∧ j < 27 ∧ v = 27 * k + j := ⟨v / 27, v % 27, by omega, by omega, by omega⟩
    refine ⟨_, by rw [hb k j hk hj]; exact pos_blk hk hj, fun H h => ?_⟩
    by_cases h1 : j = 1
    · subst h1
      have hd := kd_b hk hj
      rw [ent7 ⟨by omega, by simpa using hd⟩]
      have h2 : H[gad (GS2 D q1 u w) (27 * k + 1)]? = some (vp_cell u.2.2.2.2.2.1 (10, .inr (.inr (.inr (.inr (fun i => some (u.1 k (5 + i)))))))) := h
      show H[gad (GS2 D q1 u w) (27 * k + 1)]? = some (vp_cell u.2.2.2.2.2.1 (10, .inr (.inr (.inr (.inr (fun i => some (gad (GS2 D q1 u w) (27 * k + 1 + 4 + i))))))))
      rw [h2, vp_cellq (fun i hi => ?_)]
      rw [show 27 * k + 1 + 4 + i = 27 * k + (5 + i) by omega, hb k (5 + i) hk (by omega)]
    · rw [ent_b hk hj h1]
      exact h
  have g0 : gad (GS2 D q1 u w) 0 = u.1 0 0 := hb 0 0 (by omega) (by omega)
  have g27 : gad (GS2 D q1 u w) 27 = u.1 1 0 := hb 1 0 (by omega) (by omega)
  rcases (show v = 216 ∨ v = 217 ∨ v = 218 ∨ v = 219 ∨ v = 220 ∨ v = 221 ∨ v = 222 ∨ v = 223 by omega) with rfl | rfl | rfl | rfl | rfl | rfl | rfl | rfl
  · refine ⟨.inr (4, [.ref (u.1 0 0), .ref (u.1 1 0), .ref u.2.1, .int (0 : Int32), .ref u.2.2.1]), rfl, fun H h => ?_⟩
    rw [ent4 ok_tt]
    simp only [el4, g0, g27]
    exact h
  · refine ⟨.inl (u.2.2.2.2.2.2, 6, .inr (.inr (.inr (.inr (fun i => some (u.1 (i + 2) 0)))))), rfl, fun H h => ?_⟩
    rw [ent8 ok_saved]
    have h2 : H[gad (GS2 D q1 u w) 217]? = some (vp_cell u.2.2.2.2.2.2 (6, .inr (.inr (.inr (.inr (fun i => some (u.1 (i + 2) 0))))))) := h
    show H[gad (GS2 D q1 u w) 217]? = some (vp_cell u.2.2.2.2.2.2 (6, .inr (.inr (.inr (.inr (fun i => some (gad (GS2 D q1 u w) (27 * rS M0 i))))))))
    rw [h2, vp_cellq (fun i hi => ?_)]
    rw [show rS M0 i = i + 2 from rfl, show 27 * (i + 2) = 27 * (i + 2) + 0 by omega, hb (i + 2) 0 (by omega) (by omega)]
  · refine ⟨.inr (1, [.ref u.2.2.2.1, .int (0 : Int32)]), rfl, fun H h => ?_⟩
    rw [ent1 ok_text]
    exact h
  · refine ⟨.inl (u.2.2.2.2.1, 60, .inl (fun _ => 0)), rfl, fun H h => ?_⟩
    rw [ent6n oka_codes9, rA_M0]
    exact h
  · refine ⟨_, rfl, fun H h => ?_⟩
    rw [ent6n oka_a, rA_M0]
    rw [hw] at h
    exact h
  · refine ⟨_, rfl, fun H h => ?_⟩
    rw [ent6n oka_cc, rA_M0]
    rw [hw] at h
    exact h
  · refine ⟨_, rfl, fun H h => ?_⟩
    rw [ent6n oka_r, rA_M0]
    rw [hw] at h
    exact h
  · refine ⟨_, rfl, fun H h => ?_⟩
    rw [ent6n oka_t, rA_M0]
    rw [hw] at h
    exact h
theorem start_MX {s : State} {H : Heap} {locs : List Loc} (hw : tR = u.2.2.2.2.1) (hL : LX D [(u.2.2.2.2.1, .int), (u.2.2.2.2.2.1, .object RX0), (u.2.2.2.2.2.2, .object RX3)] (allW q1 u w tR) s H locs (fun q => s.heap.size ≤ q)) : MX (GS2 D q1 u w) M0 s H locs ∧ ∀ v, v < 224 → s.heap.size ≤ gad (GS2 D q1 u w) v := by
  obtain ⟨hK, hP, hD, hS, hA⟩ := hL
  have hge : ∀ v, v < 224 → s.heap.size ≤ gad (GS2 D q1 u w) v := fun v hv => by
    obtain ⟨e, h1, -⟩ := pos_any (D := D) (tR := tR) (q1 := q1) (u := u) (w := w) hw hv
    exact hD.2 _ _ h1
  have hlen : ∀ k q, (wsM (GS2 D q1 u w) M0)[k]? = some q → k < 224 := fun k q hk => by
    have := (List.getElem?_eq_some_iff.mp hk).1
    simpa [wsM, wsSt, wsTr, tr, GS] using this
  refine ⟨⟨hK, fun k q hk => ?_, ⟨fun i j hi hj e => ?_, fun i j x y hi => by simp [tr, GS] at hi, fun v x hv hx => by simp [tr, GS] at hx, fun x hx => by simp [tr, GS] at hx⟩, hS.1, fun q h1 h2 => hS.2.1 q h1 (fun h => h2 (Or.inr (Or.inr h))), fun z hz => Or.inr (Or.inr (hS.2.2 z hz))⟩, hge⟩
  · have hl := hlen k q hk
    rw [wsM_at hl] at hk
    cases hk
    obtain ⟨e, h1, h2⟩ := pos_any (D := D) (tR := tR) (q1 := q1) (u := u) (w := w) hw hl
    exact h2 H (hP _ _ h1)
  · obtain ⟨e1, h1, -⟩ := pos_any (D := D) (tR := tR) (q1 := q1) (u := u) (w := w) hw hi
    obtain ⟨e2, h2, -⟩ := pos_any (D := D) (tR := tR) (q1 := q1) (u := u) (w := w) hw hj
    exact posW_inj hi hj (hD.1 _ _ _ _ h1 h2 e)
end ST2
