/-! The start. -/
theorem row0_eq : row0 = upd (upd (upd (upd (upd (upd (upd (upd (fun _ => 0) 10 20) 25 40) 40 60) 55 100) 11 2) 26 2) 41 1) 56 1 := by
  unfold row0
  rw [show (pf_Mod_ofKind 0 0).toNatClampNeg = 10 from by decide, show (pf_Mod_ofKind 1 0).toNatClampNeg = 25 from by decide, show (pf_Mod_ofKind 2 0).toNatClampNeg = 40 from by decide, show (pf_Mod_ofKind 3 0).toNatClampNeg = 55 from by decide, show (pf_Mod_ofKind 0 1).toNatClampNeg = 11 from by decide, show (pf_Mod_ofKind 1 1).toNatClampNeg = 26 from by decide, show (pf_Mod_ofKind 2 1).toNatClampNeg = 41 from by decide, show (pf_Mod_ofKind 3 1).toNatClampNeg = 56 from by decide]
theorem start_cr : CRw club0 row0 0 0 := by
  have c9 : ∀ m, m < 12 → club0.2.1 9 m = -9 := fun m hm => if_pos hm
  refine ⟨⟨⟨by omega, by omega, rfl, by rw [row0_eq]; rfl, rfl, by rw [row0_eq]; rfl, Or.inl rfl, by rw [row0_eq]; rfl⟩, fun m hm => by omega, fun m hm => ⟨⟨0, rfl, Nat.zero_le _⟩, Or.inl rfl, fun y => absurd y (by show ¬ (0 : Int32) = 1; decide), Or.inl rfl, Or.inl ⟨c9 m hm, rfl⟩, fun i _ _ => by show gbit 0 i = false; simp [gbit]⟩, fun m _ hm => ⟨rfl, rfl, rfl, rfl, rfl, if_pos hm, c9 m hm, rfl, if_pos hm, rfl⟩, fun k hk => ?_⟩, ⟨⟨by rw [row0_eq]; rfl, by rw [row0_eq]; rfl, by rw [row0_eq]; rfl, by rw [row0_eq]; rfl, by rw [row0_eq]; rfl, by rw [row0_eq]; rfl, fun m hm => by omega⟩, by rw [row0_eq]; rfl⟩, fun _ => rfl, fun y => absurd y (by show ¬ (0 : Int32) = 1; decide)⟩
  have hk4 : k = 0 ∨ k = 1 ∨ k = 2 ∨ k = 3 := by omega
  rw [row0_eq]
  rcases hk4 with rfl | rfl | rfl | rfl
  · exact ⟨by decide, ⟨20, by omega, by omega, by decide⟩, by decide, 0, by omega, by decide, fun i hi => by omega, fun m hm y => absurd ((c9 m hm).symm.trans y) (neg9_ne (by omega))⟩
  · exact ⟨by decide, ⟨40, by omega, by omega, by decide⟩, by decide, 0, by omega, by decide, fun i hi => by omega, fun m hm y => absurd ((c9 m hm).symm.trans y) (neg9_ne (by omega))⟩
  · exact ⟨by decide, ⟨60, by omega, by omega, by decide⟩, by decide, 0, by omega, by decide, fun i hi => by omega, fun m hm y => absurd ((c9 m hm).symm.trans y) (neg9_ne (by omega))⟩
  · exact ⟨by decide, ⟨100, by omega, by omega, by decide⟩, by decide, 0, by omega, by decide, fun i hi => by omega, fun m hm y => absurd ((c9 m hm).symm.trans y) (neg9_ne (by omega))⟩
theorem start_tr : TRx (club0, 0, club0, 0, club0, (fun _ => 0), (fun _ => st0), ord0, club0) ref0 := by
  refine ⟨⟨⟨0, 0, start_cr⟩, Or.inl rfl, ?_, fun y => absurd y (by show ¬ (0 : Int32) = 1; decide), Or.inl rfl, ?_, fun y => absurd y (by show ¬ (0 : Int32) = 1; decide)⟩, ⟨0, 0, by omega, by omega, rfl, rfl, rfl, fun j hj => by omega⟩, 0, by omega, rfl, rfl, fun i hi => by omega⟩
  · show row0 678 = 0
    rw [row0_eq]
    rfl
  · show row0 679 = 0
    rw [row0_eq]
    rfl
