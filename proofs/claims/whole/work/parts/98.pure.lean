theorem pure_main {xs : Nat → Int32} {L : Nat} (hL : L ≤ 2560) : F_L_loop xs L 6000 0 M0 = some 1 := by
  sorry
