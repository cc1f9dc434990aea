/-! Looking: what would be. -/
theorem p_would {z : ZZ} {r : RS} (h : TRx z r) {K : ZZ → RS → Prop} (hK : ∀ z' r', TRx z' r' → K z' r') {p1 p2 : Int32} {mw : (Int32 → RS → Prop) → Prop} (hmw : ∀ Post, wp_Mod_would r p1 p2 Post → mw Post) : wp_Ham_would z p1 p2 (fun x z1 => mw (fun y r1 => (x = y → K z1 r1) ∧ (¬ x = y → False))) := by
  obtain ⟨w, N, hc⟩ := h.cr
  have hN := hc.1.1.2.1
  have hw := hc.1.1.1
  have hc4 : z.1.1 4 = nI N := hc.1.1.2.2.2.2.1
  have hst : r.1 2 = z.1.1 1 := hc.1.1.2.2.2.2.2.2.2
  have i2 : pf_Mod_in p2 0 2 = 0 ↔ ¬ (0 ≤ p2.toInt ∧ p2.toInt ≤ 2) := in15
  have e0 : (0 : Int32).toInt = 0 := rfl
  have e2 : (2 : Int32).toInt = 2 := rfl
  have fin : ∀ (e : Int32) (z1 : ZZ), wp_Mod_would r p1 p2 (fun y r1 => (e = y → K z1 r1) ∧ (¬ e = y → False)) → mw (fun y r1 => (e = y → K z1 r1) ∧ (¬ e = y → False)) := fun e z1 q => hmw _ q
  have ok : ∀ e : Int32, (e = e → K z r) ∧ (¬ e = e → False) := fun e => ⟨fun _ => hK _ _ h, fun q => absurd rfl q⟩
  have bad : ¬ (isM N p1 ∧ 0 ≤ p2.toInt ∧ p2.toInt ≤ 2) → mw (fun y r1 => ((-1 : Int32) = y → K z r1) ∧ (¬ (-1 : Int32) = y → False)) := by
    intro hb
    refine fin _ _ ?_
    unfold wp_Mod_would
    refine s_isMember hc.rg (fun hM => ⟨fun q => absurd q (by decide), fun _ => ?_⟩) (fun _ => ⟨fun _ => ok _, fun q => absurd rfl q⟩)
    rw [i2]
    exact ⟨fun _ => ok _, fun q => absurd ⟨hM, Classical.not_not.mp q⟩ hb⟩
  unfold wp_Ham_would
  refine k_exists hc4 hN (fun hM => ⟨fun q => absurd q (by decide), fun _ => ⟨fun q => ?_, fun q => ⟨fun q2 => ?_, fun q2 => ?_⟩⟩⟩) (fun hM => ⟨fun _ => bad (fun y => hM y.1), fun q => absurd rfl q⟩)
  · refine bad (fun y => ?_)
    have := Int32.lt_iff_toInt_lt.mp q
    omega
  · have h0 : 0 ≤ p2.toInt := by
      have : ¬ p2.toInt < (0 : Int32).toInt := fun y => q (Int32.lt_iff_toInt_lt.mpr y)
      omega
    have h2 : p2.toInt ≤ 2 := Int32.le_iff_toInt_le.mp q2
    obtain ⟨j, hj, rfl⟩ := isM_of hM hN
    have hj12 : j < 12 := by omega
    have hin : vp_in (nI j) 12 := vp_in_nI hj12 (by omega)
    have cl : (nI j).toNatClampNeg = j := nI_clamp (by omega)
    refine ⟨fun hu => ?_, fun hu => ?_⟩
    · have hc1 : CRw z.1 (cpF r.1 0 4080 226) w N := CRw_row hc (fun i hi => aside_row hi)
      -- the reference
      have ref : ∀ (e : Int32) (z1 : ZZ) (hh : Int32) (g' : Nat → Int32), (∀ r', Same r r' → TRx z1 r') → (∀ i, 226 ≤ i → g' i = cpF r.1 0 4080 226 i) → (∀ (u : RS) (Post : Int32 → RS → Prop), u.1 = cpF r.1 0 4080 226 → (∀ F, Post hh (rR (rF u F) g')) → wp_Mod_doSettle u Post) → (p2 = 0 → e = mb g' j 12) → (¬ p2 = 0 → p2 = 1 → e = mb g' j 11) → (¬ p2 = 0 → ¬ p2 = 1 → e = mb g' j 10 - mb r.1 j 10) → mw (fun y r1 => (e = y → K z1 r1) ∧ (¬ e = y → False)) := by
        intro e z1 hh g' ht hg hd t0 t1 t2
        have fine : ∀ r', Same r r' → (e = e → K z1 r') ∧ (¬ e = e → False) := fun r' s => ⟨fun _ => hK _ _ (ht r' s), fun y => absurd rfl y⟩
        refine fin _ _ ?_
        unfold wp_Mod_would
        refine s_isMember hc.rg (fun _ => ⟨fun x => absurd x (by decide), fun _ => ?_⟩) (fun y => absurd hM y)
        rw [i2]
        refine ⟨fun y => absurd ⟨h0, h2⟩ y, fun _ => s_isSettled (fun y => absurd (hst.symm.trans y) (by rw [hu]; decide)) (fun _ => ⟨fun _ => ?_, fun y => absurd rfl y⟩)⟩
        refine t_copy (a := 0) (b := 4080) (n := 226) (by omega) (by omega) (by omega) ?_
        rw [ofc10 hj12, ofc11 hj12, ofc12 hj12]
        refine ⟨ofi10 hj12, ?_⟩
        intro x6 e6
        have e6' : x6 = mb r.1 j 10 := by
          rw [e6]
          exact aside_row (by omega)
        refine hd _ _ rfl (fun F => ⟨fun y => ⟨ofi12 hj12, ?_⟩, fun y => ⟨fun y1 => ⟨ofi11 hj12, ?_⟩, fun y1 => ⟨ofi10 hj12, ?_⟩⟩⟩)
        · intro x ex
          have : x = e := ex.trans (t0 y).symm
          rw [this]
          exact back_copy hg fine
        · intro x ex
          have : x = e := ex.trans (t1 y y1).symm
          rw [this]
          exact back_copy hg fine
        · intro x ex
          have : x = e := by
            rw [t2 y y1, ex, e6']
            rfl
          rw [this]
          exact back_copy hg fine
      refine ⟨fun p0 => ?_, fun p0 => ?_⟩
      · obtain ⟨hh, c', g', s1, s2, s3, s4, s5⟩ := settle_ex hc1 hu
        refine k_bonus (w := w) hc4 hN hw hc.1.2.2.1 hj ?_
        exact ref _ _ hh g' (fun r' s => TRx_back h s) s2 s5 (fun _ => (s3 j hj).symm) (fun y => absurd p0 y) (fun y => absurd p0 y)
      · obtain ⟨a', ea, ca⟩ := x_copyC (a := z.2.2.2.2.2.2.2.2) (b := z.1) (Or.inl hu)
        refine ca _ ?_
        have hua : a'.1 1 = 0 := by
          rw [ea.1 1 (by omega)]
          exact hu
        obtain ⟨hh, c', g', s1, s2, s3, s4, s5⟩ := settle_ex (CRw_eqC hc1 ea) hua
        refine s4 _ ?_
        rw [cl]
        have k11 : mb g' j 11 = c'.2.1 11 j := (s1.1.2.1 j hj).2.2.2.2.2.2.2.2.1
        have k10 : c'.2.1 4 j = mb g' j 10 + 0 := s1.2.1.1.2.2.2.2.2.2 j hj
        have k10' : z.1.2.1 4 j = mb r.1 j 10 + 0 := hc.2.1.1.2.2.2.2.2.2 j hj
        rw [Int32.add_zero] at k10 k10'
        refine ⟨fun p1' => ⟨hin, ?_⟩, fun p1' => ⟨hin, hin, ?_⟩⟩
        · exact ref _ _ hh g' (fun r' s => TRx_back h s) s2 s5 (fun y => absurd y p0) (fun _ _ => k11.symm) (fun _ y => absurd p1' y)
        · refine ref _ _ hh g' (fun r' s => TRx_back h s) s2 s5 (fun y => absurd y p0) (fun _ y => absurd y p1') (fun _ _ => ?_)
          rw [k10, k10']
    · have hs : z.1.1 1 = 1 := hc.1.1.2.2.2.2.2.2.1.resolve_left hu
      refine fin _ _ ?_
      unfold wp_Mod_would
      refine s_isMember hc.rg (fun _ => ⟨fun x => absurd x (by decide), fun _ => ?_⟩) (fun y => absurd hM y)
      rw [i2]
      exact ⟨fun y => absurd ⟨h0, h2⟩ y, fun _ => s_isSettled (fun _ => ⟨fun x => absurd x (by decide), fun _ => ok _⟩) (fun y => absurd (hst.trans hs) y)⟩
  · exact bad (fun y => q2 (Int32.le_iff_toInt_le.mpr (by omega)))
