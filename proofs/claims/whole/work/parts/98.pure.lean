theorem pure_part (xs : Nat → Int32) {L : Nat} (hL : L ≤ 2560) : DL_c18 xs L (fun _ => True) FU 0 (fun _ _ => 0) := sorry
