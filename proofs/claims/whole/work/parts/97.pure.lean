/-! The whole run: the relation holds at every step. -/
theorem pure_loop {L : Nat} {xs : Nat → Int32} (hL : L ≤ 2048) : ∀ (n a : Nat) (z : ZZ) (r : RS), TRx z r → L + 1 - a < n → a ≤ L + 4 → wl_law L xs n (nI a) (z.1, z.2.1, z.2.2.1, z.2.2.2.1, z.2.2.2.2.1, z.2.2.2.2.2.1, z.2.2.2.2.2.2.1, z.2.2.2.2.2.2.2.1, z.2.2.2.2.2.2.2.2, r) := by
  intro n
  induction n with
  | zero => intro a z r _ h; omega
  | succ n ih =>
    intro a z r h h1 h2
    refine ⟨fun _ => True.intro, fun q => ?_⟩
    have hle : a + 4 ≤ L := by
      have q1 := Int32.le_iff_toInt_le.mp (Int32.not_lt.mp q)
      rw [show (4 : Int32) = nI 4 from rfl, show Int32.ofNat L = nI L from rfl, pk_sub_toInt (by omega) (by omega), nI_toInt (by omega)] at q1
      omega
    have v0 : vp_in (nI a) L := vp_in_nI (by omega) (by omega)
    have v1 : vp_in (nI a + 1) L := by
      rw [nI_1]
      exact vp_in_nI (by omega) (by omega)
    have v2 : vp_in (nI a + 2) L := by
      rw [show (2 : Int32) = nI 2 from rfl, nI_add]
      exact vp_in_nI (by omega) (by omega)
    have v3 : vp_in (nI a + 3) L := by
      rw [show (3 : Int32) = nI 3 from rfl, nI_add]
      exact vp_in_nI (by omega) (by omega)
    have e4 : nI a + 4 = nI (a + 4) := by rw [show (4 : Int32) = nI 4 from rfl, nI_add]
    have hK : ∀ (z' : ZZ) (r' : RS), TRx z' r' → ∀ x5 : Int32, x5 = nI a + 4 → wl_law L xs n x5 (z'.1, z'.2.1, z'.2.2.1, z'.2.2.2.1, z'.2.2.2.2.1, z'.2.2.2.2.2.1, z'.2.2.2.2.2.2.1, z'.2.2.2.2.2.2.2.1, z'.2.2.2.2.2.2.2.2, r') := by
      intro z' r' t x5 e5
      rw [e5, e4]
      exact ih (a + 4) z' r' t (by omega) (by omega)
    refine ⟨v0, fun _ => ?_, fun _ => ?_, fun _ => ?_, fun _ => ?_, fun _ => ?_, fun _ => ?_, fun _ => ?_, fun _ => ?_, fun _ => ?_, fun _ => ?_, fun _ => ?_, fun _ => ?_, fun _ => ?_, fun _ => ?_, fun _ => ?_, fun _ => ?_, fun _ => ?_, fun _ => ?_, fun _ => ?_, fun _ => ?_, fun _ => ?_, fun _ => ?_, fun _ => ?_, fun _ => ?_, fun _ _ _ _ _ _ _ _ _ _ _ _ _ _ _ _ _ _ _ _ _ _ _ _ => hK z r h⟩
    · exact p_join (z := z) (r := r) h hK (mw := fun P => wp_Mod_join r P) (fun _ q => q)
    · exact ⟨v1, v2, p_stick (z := z) (r := r) h hK (mw := fun P => vp_in (nI a + 1) L ∧ vp_in (nI a + 2) L ∧ wp_Mod_stick r (xs (nI a + 1).toNatClampNeg) (xs (nI a + 2).toNatClampNeg) P) (fun _ q => ⟨v1, v2, q⟩)⟩
    · exact ⟨v1, v2, p_withdraw (z := z) (r := r) h hK (mw := fun P => vp_in (nI a + 1) L ∧ vp_in (nI a + 2) L ∧ wp_Mod_withdraw r (xs (nI a + 1).toNatClampNeg) (xs (nI a + 2).toNatClampNeg) P) (fun _ q => ⟨v1, v2, q⟩)⟩
    · exact ⟨v1, p_mislay (z := z) (r := r) h hK (mw := fun P => vp_in (nI a + 1) L ∧ wp_Mod_mislay r (xs (nI a + 1).toNatClampNeg) P) (fun _ q => ⟨v1, q⟩)⟩
    · exact ⟨v1, p_find (z := z) (r := r) h hK (mw := fun P => vp_in (nI a + 1) L ∧ wp_Mod_find r (xs (nI a + 1).toNatClampNeg) P) (fun _ q => ⟨v1, q⟩)⟩
    · exact ⟨v1, v2, v3, p_setHamper (z := z) (r := r) h hK (mw := fun P => vp_in (nI a + 1) L ∧ vp_in (nI a + 2) L ∧ vp_in (nI a + 3) L ∧ wp_Mod_setHamper r (xs (nI a + 1).toNatClampNeg) (xs (nI a + 2).toNatClampNeg) (xs (nI a + 3).toNatClampNeg) P) (fun _ q => ⟨v1, v2, v3, q⟩)⟩
    · exact ⟨v1, v2, p_choose (z := z) (r := r) h hK (mw := fun P => vp_in (nI a + 1) L ∧ vp_in (nI a + 2) L ∧ wp_Mod_choose r (xs (nI a + 1).toNatClampNeg) (xs (nI a + 2).toNatClampNeg) P) (fun _ q => ⟨v1, v2, q⟩)⟩
    · exact ⟨v1, p_giveUp (z := z) (r := r) h hK (mw := fun P => vp_in (nI a + 1) L ∧ wp_Mod_giveUp r (xs (nI a + 1).toNatClampNeg) P) (fun _ q => ⟨v1, q⟩)⟩
    · exact p_week (z := z) (r := r) h hK (mw := fun P => wp_Mod_week r P) (fun _ q => q)
    · exact p_settle (z := z) (r := r) h hK (mw := fun P => wp_Mod_settle r P) (fun _ q => q)
    · exact ⟨v1, p_take (z := z) (r := r) h hK (mw := fun P => vp_in (nI a + 1) L ∧ wp_Mod_take r (xs (nI a + 1).toNatClampNeg) P) (fun _ q => ⟨v1, q⟩)⟩
    · exact ⟨v1, p_restore (z := z) (r := r) h hK (mw := fun P => vp_in (nI a + 1) L ∧ wp_Mod_restore r (xs (nI a + 1).toNatClampNeg) P) (fun _ q => ⟨v1, q⟩)⟩
    · exact p_undo (z := z) (r := r) h hK (mw := fun P => wp_Mod_undo r P) (fun _ q => q)
    · exact ⟨v1, p_append (z := z) (r := r) h hK (mw := fun P => vp_in (nI a + 1) L ∧ wp_Mod_append r (xs (nI a + 1).toNatClampNeg) P) (fun _ q => ⟨v1, q⟩)⟩
    · exact p_clearText (z := z) (r := r) h hK (mw := fun P => wp_Mod_clearText r P) (fun _ q => q)
    · exact p_carryOut (z := z) (r := r) h hK (mw := fun P => wp_Mod_carryOut r P) (fun _ q => q)
    · exact ⟨v1, p_count (z := z) (r := r) h hK (mw := fun P => vp_in (nI a + 1) L ∧ wp_Mod_count r (xs (nI a + 1).toNatClampNeg) P) (fun _ q => ⟨v1, q⟩)⟩
    · exact ⟨v1, v2, p_member (z := z) (r := r) h hK (mw := fun P => vp_in (nI a + 1) L ∧ vp_in (nI a + 2) L ∧ wp_Mod_member r (xs (nI a + 1).toNatClampNeg) (xs (nI a + 2).toNatClampNeg) P) (fun _ q => ⟨v1, v2, q⟩)⟩
    · exact ⟨v1, v2, p_isGood (z := z) (r := r) h hK (mw := fun P => vp_in (nI a + 1) L ∧ vp_in (nI a + 2) L ∧ wp_Mod_isGood r (xs (nI a + 1).toNatClampNeg) (xs (nI a + 2).toNatClampNeg) P) (fun _ q => ⟨v1, v2, q⟩)⟩
    · exact ⟨v1, v2, p_hamper (z := z) (r := r) h hK (mw := fun P => vp_in (nI a + 1) L ∧ vp_in (nI a + 2) L ∧ wp_Mod_hamper r (xs (nI a + 1).toNatClampNeg) (xs (nI a + 2).toNatClampNeg) P) (fun _ q => ⟨v1, v2, q⟩)⟩
    · exact ⟨v1, v2, p_waiting (z := z) (r := r) h hK (mw := fun P => vp_in (nI a + 1) L ∧ vp_in (nI a + 2) L ∧ wp_Mod_waiting r (xs (nI a + 1).toNatClampNeg) (xs (nI a + 2).toNatClampNeg) P) (fun _ q => ⟨v1, v2, q⟩)⟩
    · exact ⟨v1, v2, p_would (z := z) (r := r) h hK (mw := fun P => vp_in (nI a + 1) L ∧ vp_in (nI a + 2) L ∧ wp_Mod_would r (xs (nI a + 1).toNatClampNeg) (xs (nI a + 2).toNatClampNeg) P) (fun _ q => ⟨v1, v2, q⟩)⟩
    · exact ⟨v1, p_bestKind (z := z) (r := r) h hK (mw := fun P => vp_in (nI a + 1) L ∧ wp_Mod_bestKind r (xs (nI a + 1).toNatClampNeg) P) (fun _ q => ⟨v1, q⟩)⟩
    · exact ⟨v1, v2, v3, p_weeksFor (z := z) (r := r) h hK (mw := fun P => vp_in (nI a + 1) L ∧ vp_in (nI a + 2) L ∧ vp_in (nI a + 3) L ∧ wp_Mod_weeksFor r (xs (nI a + 1).toNatClampNeg) (xs (nI a + 2).toNatClampNeg) (xs (nI a + 3).toNatClampNeg) P) (fun _ q => ⟨v1, v2, v3, q⟩)⟩
theorem law_pure {L : Nat} {xs : Nat → Int32} (hL : L ≤ 2048) : ∃ n : Nat, wl_law L xs n 0 (club0, 0, club0, 0, club0, (fun _ => 0), (fun _ => st0), ord0, club0, ref0) :=
  ⟨L + 2, pure_loop (xs := xs) hL (L + 2) 0 (club0, 0, club0, 0, club0, (fun _ => 0), (fun _ => st0), ord0, club0) ref0 start_tr (by omega) (by omega)⟩
