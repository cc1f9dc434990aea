/-! How it begins. -/
theorem f9 {m : Nat} (h : m < 12) : fillF m = -9 := if_pos h
theorem g0 (i : Nat) : gbit 0 i = false := by
  unfold gbit
  simp
theorem can0 : Can club0 := by
  refine ⟨fun _ _ => rfl, fun k m h => ?_, fun _ _ => rfl⟩
  have fz : 12 ≤ m → fillF m = 0 := fun q => if_neg (by omega)
  show (if k = 6 then fillF else if k = 7 then prF else if k = 8 then skF else if k = 9 then fillF else if k = 11 then fillF else fun _ => 0) m = 0
  by_cases e6 : k = 6
  · rw [if_pos e6]
    subst e6
    rw [dim12 (by decide) (by decide)] at h
    exact fz (by omega)
  rw [if_neg e6]
  by_cases e7 : k = 7
  · rw [if_pos e7]
    subst e7
    rw [dim7] at h
    exact if_neg (by omega)
  rw [if_neg e7]
  by_cases e8 : k = 8
  · rw [if_pos e8]
    subst e8
    rw [dim8] at h
    exact if_neg (by omega)
  rw [if_neg e8]
  rw [dim12 e7 e8] at h
  by_cases e9 : k = 9
  · rw [if_pos e9]
    exact fz (by omega)
  rw [if_neg e9]
  by_cases e11 : k = 11
  · rw [if_pos e11]
    exact fz (by omega)
  rw [if_neg e11]
theorem nst0 (m : Nat) : nst club0 m = 0 := by
  show (0 : Int32).toNatClampNeg = 0
  rfl
theorem kct0 {k : Nat} (hk : k < 4) : kct club0 k = 0 := by
  rcases (show k = 0 ∨ k = 1 ∨ k = 2 ∨ k = 3 by omega) with rfl | rfl | rfl | rfl <;> rfl
theorem invK0 {k : Nat} (hk : k < 4) : InvK club0 k := by
  unfold InvK
  rw [kct0 hk]
  rcases (show k = 0 ∨ k = 1 ∨ k = 2 ∨ k = 3 by omega) with rfl | rfl | rfl | rfl
  · exact ⟨⟨20, by omega, by omega, rfl⟩, 2, rfl, by omega⟩
  · exact ⟨⟨40, by omega, by omega, rfl⟩, 2, rfl, by omega⟩
  · exact ⟨⟨60, by omega, by omega, rfl⟩, 1, rfl, by omega⟩
  · exact ⟨⟨100, by omega, by omega, rfl⟩, 1, rfl, by omega⟩
theorem inv0 : Inv club0 0 0 := by
  refine ⟨⟨can0, ⟨by omega, by omega, rfl, rfl, Or.inl rfl⟩, fun m hm => ?_, fun m _ hm => ⟨rfl, rfl, rfl, rfl, f9 hm, f9 hm, rfl⟩, fun k hk => ⟨invK0 hk, 0, by omega, fun i hi => absurd hi (Nat.not_lt_zero i), fun m _ _ => Or.inl rfl, fun m m' _ _ _ _ _ => Or.inl rfl⟩⟩, ⟨0, ⟨rfl, rfl, rfl, rfl⟩, fun _ => rfl⟩, fun _ => ⟨fun m hm => ⟨f9 hm, show ¬ (0 : Int32) = 2 by decide⟩, 0, rfl, ?_⟩, fun q => absurd q (by decide)⟩
  · refine ⟨⟨by rw [nst0]; rfl, by rw [nst0]; exact Nat.zero_le _⟩, Or.inl rfl, fun q => absurd q (show ¬ (0 : Int32) = 1 by decide), Or.inl rfl, Or.inl ⟨f9 hm, rfl⟩, Or.inl (f9 hm), Or.inl ⟨f9 hm, fun i _ => g0 i⟩⟩
  · rw [nsum_0 (fun m _ => nst0 m)]
    exact Nat.zero_le _
def z00 : ZZ := (club0, 0, club0, 0, club0, (fun _ => 0), (fun _ => st0), ord0, club0)
theorem zi0 : ZI z00 := ⟨⟨⟨0, 0, inv0⟩, Or.inl rfl, can0, fun q => absurd q (by decide), Or.inl rfl, can0, fun q => absurd q (by decide)⟩, ⟨0, 0, by omega, by omega, rfl, rfl⟩, fun _ => ⟨can0, can0, can0⟩, Or.inl rfl, can0⟩
