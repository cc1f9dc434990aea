theorem law_pure {L : Nat} {xs : Nat → Int32} (hL : L ≤ 260) : wb_Law_8 L xs (club0, 0, club0, 0, club0, (fun _ => 0), (fun _ => st0), ord0, club0) := sorry
