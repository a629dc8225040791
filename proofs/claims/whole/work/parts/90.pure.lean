theorem law_pure {L : Nat} {xs : Nat → Int32} (hL : L ≤ 2048) : ∃ n, wb_L_law_18 xs L n 0 1023 (0 : Int32) ct_m0 := by
  sorry
