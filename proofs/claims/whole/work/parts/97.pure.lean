theorem law_pure {xs : Nat → Int32} {L : Nat} (hL : L ≤ 320) : f_L_law_18 xs L 300 0 z0 0 z0 z0 z0 z0 z0 z0 z0 0 0 0 0 z0 z0 0 0 0 0 0 z0 z0 z0 z0 z0 z0 0 0 0 0 0 0 0 z0 z0 z0 z0 0 0 z0 z0 z0 z0 0 z0 z0 z0 z0 0 0 0 0 0 z0 0 0 0 0 z0 z0 z0 z0 z0 z0 z0 0 = some 1 := by
  sorry
