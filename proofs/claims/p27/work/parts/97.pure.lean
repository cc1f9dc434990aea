/-! The law comes to its end with true. -/
theorem law_pure {L : Nat} {xs : Nat → Int32} (hL : L ≤ 260) : wb_Law_8 L xs (club0, 0, club0, 0, club0, (fun _ => 0), (fun _ => st0), ord0, club0) := by
  have h0 : ZI (club0, 0, club0, 0, club0, (fun _ => 0), (fun _ => st0), ord0, club0) := zi0
  unfold wb_Law_8
  refine ⟨fun y => ?_, ?_⟩
  · exact vp_in_nI (n := 0) (N := L) (Nat.pos_of_ne_zero (fun q => by subst q; exact absurd y (by decide))) (by omega)
  · intro x1 _
    obtain ⟨j, hj, ej⟩ := low_ex x1 (n := 3) (by omega) (by omega)
    refine ⟨5, set_up hj ej (fun z hz ho => ?_) 5 0 _ h0 rfl (by omega) (by omega)⟩
    exact text3 hz ho (fun z hz => ⟨27, r_loop (fun z hz => e_all hz) hL 27 0 z hz (by omega) (by omega)⟩)
