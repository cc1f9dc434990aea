theorem law_pure {L : Nat} {xs : Nat → Int32} (hL : L ≤ 2048) : ∃ n : Nat, wl_law L xs n 0 (club0, 0, club0, 0, club0, (fun _ => 0), (fun _ => st0), ord0, club0, ref0) := sorry
