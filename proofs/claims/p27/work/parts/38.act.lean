theorem act1_ok {z : Nat → Int32} {f c r : Nat} {kd x ri : Int32} (hz : ZW (zoff z f kd)) (hn : zn (zoff z f kd) = zn z) (hf : f < zn z) (hx : xok z kd x) (hc : c < 4) (hr : r ≤ 5) (hri : ri = nI r) : ZW (zact1 z f kd x c ri) ∧ zn (zact1 z f kd x c ri) = zn z := by
  have hu : ZW (upd (zoff z f kd) 4 (zoff z f kd 4 + 1)) ∧ zn (upd (zoff z f kd) 4 (zoff z f kd 4 + 1)) = zn z := ⟨ZW_up hz (by decide) (by decide), (zn_up hz.1 (by decide) (by decide)).trans hn⟩
  unfold zact1
  split
  · exact hu
  · split
    · obtain ⟨a, b⟩ := ZW_do (c := c) (r := r) (ri := ri) hz (by rw [hn]; exact hf) (xok_of hn hx) hc hr hri
      exact ⟨a, b.trans hn⟩
    · exact hu
