/-! Looking: a good week. -/
theorem TRx.cr {z : ZZ} {r : RS} (h : TRx z r) : ∃ w N, CRw z.1 r.1 w N := h.1.1
theorem p_isGood {z : ZZ} {r : RS} (h : TRx z r) {K : ZZ → RS → Prop} (hK : ∀ z' r', TRx z' r' → K z' r') {p1 p2 : Int32} {mw : (Int32 → RS → Prop) → Prop} (hmw : ∀ Post, wp_Mod_isGood r p1 p2 Post → mw Post) : wp_Ham_isGood z p1 p2 (fun x z1 => mw (fun y r1 => (x = y → K z1 r1) ∧ (¬ x = y → False))) := by
  obtain ⟨w, N, hc⟩ := h.cr
  have hN := hc.1.1.2.1
  have hc4 : z.1.1 4 = nI N := hc.1.1.2.2.2.2.1
  have i1 : pf_Mod_in p2 0 60 = 0 ↔ ¬ (0 ≤ p2.toInt ∧ p2.toInt ≤ 60) := in15
  have fin : ∀ e : Int32, wp_Mod_isGood r p1 p2 (fun y r1 => (e = y → K z r1) ∧ (¬ e = y → False)) → mw (fun y r1 => (e = y → K z r1) ∧ (¬ e = y → False)) := fun e q => hmw _ q
  have ok : ∀ e : Int32, (e = e → K z r) ∧ (¬ e = e → False) := fun e => ⟨fun _ => hK _ _ h, fun q => absurd rfl q⟩
  have bad : ¬ (isM N p1 ∧ 0 ≤ p2.toInt ∧ p2.toInt ≤ 60) → mw (fun y r1 => ((-1 : Int32) = y → K z r1) ∧ (¬ (-1 : Int32) = y → False)) := by
    intro hb
    refine fin _ ?_
    unfold wp_Mod_isGood
    refine s_isMember hc.rg (fun hM => ⟨fun q => absurd q (by decide), fun _ => ?_⟩) (fun _ => ⟨fun _ => ok _, fun q => absurd rfl q⟩)
    rw [i1]
    exact ⟨fun _ => ok _, fun q => absurd ⟨hM, Classical.not_not.mp q⟩ hb⟩
  unfold wp_Ham_isGood
  refine k_exists hc4 hN (fun hM => ⟨fun q => absurd q (by decide), fun _ => ⟨fun q => ?_, fun q => ⟨fun q2 => ?_, fun q2 => ?_⟩⟩⟩) (fun hM => ⟨fun _ => bad (fun y => hM y.1), fun q => absurd rfl q⟩)
  · refine bad (fun y => ?_)
    have := Int32.lt_iff_toInt_lt.mp q
    have e0 : (0 : Int32).toInt = 0 := rfl
    omega
  · have h0 : 0 ≤ p2.toInt := by
      have : ¬ p2.toInt < (0 : Int32).toInt := fun y => q (Int32.lt_iff_toInt_lt.mpr y)
      have e0 : (0 : Int32).toInt = 0 := rfl
      omega
    have h60 : p2.toInt ≤ 60 := Int32.le_iff_toInt_le.mp q2
    obtain ⟨j, hj, rfl⟩ := isM_of hM hN
    obtain ⟨i, hi, rfl⟩ := lit_of (n := 60) (by omega) h0 h60
    have hg := (hc.1.2.1 j hj).good hi
    have ref : ∀ e : Int32, (goodR r.1 j i = true → e = 1) → (¬ goodR r.1 j i = true → e = 0) → mw (fun y r1 => (e = y → K z r1) ∧ (¬ e = y → False)) := by
      intro e g1 g2
      refine fin _ ?_
      unfold wp_Mod_isGood
      refine s_isMember hc.rg (fun _ => ⟨fun q => absurd q (by decide), fun _ => ?_⟩) (fun y => absurd hM y)
      rw [i1]
      refine ⟨fun y => absurd ⟨h0, h60⟩ y, fun _ => s_isGoodWeek (by omega) hi (fun y => ⟨fun x => absurd x (by decide), fun _ => ?_⟩) (fun y => ⟨fun _ => ?_, fun x => absurd rfl x⟩)⟩
      · rw [g1 y]; exact ok _
      · rw [g2 y]; exact ok _
    refine k_goodIn (by omega) (by omega) (fun y => ⟨fun x => absurd x (by decide), fun _ => ref 1 (fun _ => rfl) (fun x => absurd (hg.trans y) x)⟩) (fun y => ⟨fun _ => ref 0 (fun x => absurd (hg.symm.trans x) y) (fun _ => rfl), fun x => absurd rfl x⟩)
  · refine bad (fun y => q2 (Int32.le_iff_toInt_le.mpr y.2.2))
