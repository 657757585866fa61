theorem f_holds {xs : Nat → Int32} {L : Nat} (hL : L ≤ 3072) : f_L_law M0 xs L := by
  sorry
