/-! Looking: how many weeks a hamper takes. -/
theorem p_weeksFor {z : ZZ} {r : RS} (h : TRx z r) {K : ZZ → RS → Prop} (hK : ∀ z' r', TRx z' r' → K z' r') {p1 p2 p3 : Int32} {mw : (Int32 → RS → Prop) → Prop} (hmw : ∀ Post, wp_Mod_weeksFor r p1 p2 p3 Post → mw Post) : wp_Ham_weeksFor z p1 p2 p3 (fun x z1 => mw (fun y r1 => (x = y → K z1 r1) ∧ (¬ x = y → False))) := by
  obtain ⟨w, N, hc⟩ := h.cr
  have hN := hc.1.1.2.1
  have hw := hc.1.1.1
  have hc4 : z.1.1 4 = nI N := hc.1.1.2.2.2.2.1
  have hc0 : z.1.1 0 = nI w := hc.1.1.2.2.1
  have hr0 : r.1 0 = nI w := hc.1.1.2.2.2.1
  have i1 : pf_Mod_in p3 1 5 = 0 ↔ ¬ (1 ≤ p3.toInt ∧ p3.toInt ≤ 5) := in15
  have ok : ∀ e : Int32, (e = e → K z r) ∧ (¬ e = e → False) := fun e => ⟨fun _ => hK _ _ h, fun q => absurd rfl q⟩
  have fin : ∀ e : Int32, wp_Mod_weeksFor r p1 p2 p3 (fun y r1 => (e = y → K z r1) ∧ (¬ e = y → False)) → mw (fun y r1 => (e = y → K z r1) ∧ (¬ e = y → False)) := fun e q => hmw _ q
  have l1 : (1 : Int32).toInt = 1 := rfl
  have l5 : (5 : Int32).toInt = 5 := rfl
  have bad : ¬ (isM N p1 ∧ isK p2 ∧ 1 ≤ p3.toInt ∧ p3.toInt ≤ 5) → mw (fun y r1 => ((-1 : Int32) = y → K z r1) ∧ (¬ (-1 : Int32) = y → False)) := by
    intro hb
    refine fin _ ?_
    unfold wp_Mod_weeksFor
    refine s_isMember hc.rg (fun hM => ⟨fun q => absurd q (by decide), fun _ => ?_⟩) (fun _ => ⟨fun _ => ok _, fun q => absurd rfl q⟩)
    rw [isKind0, i1]
    exact ⟨fun _ => ok _, fun q2 => ⟨fun _ => ok _, fun q => absurd ⟨hM, Classical.not_not.mp q2, Classical.not_not.mp q⟩ hb⟩⟩
  unfold wp_Ham_weeksFor
  refine k_exists hc4 hN (fun hM => ⟨fun q => absurd q (by decide), fun _ => ⟨fun q => bad (fun y => hamK.mp q y.2.1), fun qk => ⟨fun q => bad (fun y => ?_), fun qa => ⟨fun qb => ?_, fun q => bad (fun y => q (Int32.le_iff_toInt_le.mpr y.2.2.2))⟩⟩⟩⟩) (fun hM => ⟨fun _ => bad (fun y => hM y.1), fun q => absurd rfl q⟩)
  · have := Int32.lt_iff_toInt_lt.mp q
    omega
  · have hK2 : isK p2 := Classical.not_not.mp (fun y => qk (hamK.mpr y))
    obtain ⟨j, hj, rfl⟩ := isM_of hM hN
    obtain ⟨k, hk, rfl⟩ := isK_of hK2
    have h1 : 1 ≤ p3.toInt := by
      have : ¬ p3.toInt < (1 : Int32).toInt := fun y => qa (Int32.lt_iff_toInt_lt.mpr y)
      omega
    have h5 : p3.toInt ≤ 5 := Int32.le_iff_toInt_le.mp qb
    have hp0 : ¬ p3 = 0 := by
      intro y
      rw [y] at h1
      exact absurd h1 (by decide)
    obtain ⟨b1, b2, -⟩ := hc.1.2.1 j hj
    have hg := (hc.1.2.1 j hj).good hw
    have hpr := (hc.1.2.2.2.2 k hk).1
    have hin : vp_in (nI j) 12 := vp_in_nI (by omega) (by omega)
    have hik : vp_in (nI k) 4 := vp_in_nI hk (by omega)
    have ref : ∀ P : Int32 → RS → Prop, (¬ mb r.1 j 1 = 0 → P (-2) r) → (mb r.1 j 1 = 0 → ∀ x : Int32, x = z.1.2.1 7 k - z.1.2.1 0 j - (if goodR r.1 j w = true then 0 else p3) → (0 < x → P ((x + p3 - 1) / p3) r) ∧ (¬ 0 < x → P 0 r)) → wp_Mod_weeksFor r (nI j) (nI k) p3 P := by
      intro P g1 g2
      unfold wp_Mod_weeksFor
      refine s_isMember hc.rg (fun _ => ⟨fun q => absurd q (by decide), fun _ => ?_⟩) (fun y => absurd hM y)
      rw [isKind0, i1]
      refine ⟨fun y => absurd hK2 y, fun _ => ⟨fun y => absurd ⟨h1, h5⟩ y, fun _ => s_isInHand (by omega) (fun y => ⟨fun x => absurd x (by decide), fun _ => ?_⟩) (fun y => ⟨fun _ => g1 y, fun x => absurd rfl x⟩)⟩⟩
      rw [okc0 hk, ofc0 (by omega), c0, hr0]
      have e1 : r.1 (10 + 15 * k + 0) = z.1.2.1 7 k := hpr.symm
      have e2 : r.1 (70 + 13 * j + 0) = z.1.2.1 0 j := b1
      rw [e1, e2]
      refine ⟨oki0 hk, ofi0 (by omega), ?_⟩
      intro x5 e5
      rw [e5]
      have g3 := g2 y _ rfl
      refine s_isGoodWeek (by omega) hw (fun a => ⟨fun x => absurd x (by decide), fun _ => ?_⟩) (fun a => ⟨fun _ => ?_, fun x => absurd rfl x⟩)
      · rw [if_pos a] at g3
        intro x ex
        rw [ex]
        exact ⟨fun y => ⟨hp0, g3.1 y⟩, g3.2⟩
      · rw [if_neg a] at g3
        intro x ex
        rw [ex]
        exact ⟨fun y => ⟨hp0, g3.1 y⟩, g3.2⟩
    refine k_inHand (by omega) (fun y => ⟨fun x => absurd x (by decide), fun _ => ?_⟩) (fun y => ⟨fun _ => fin _ (ref _ (fun _ => ok _) (fun x => absurd (b2.symm.trans x) y)), fun x => absurd rfl x⟩)
    rw [hc0]
    simp only [nI_clamp (show j < 2 ^ 31 by omega), nI_clamp (show k < 2 ^ 31 by omega), forall_eq]
    have both : ∀ x : Int32, x = z.1.2.1 7 k - z.1.2.1 0 j - (if goodR r.1 j w = true then 0 else p3) → ((0 < x → ¬ p3 = 0 ∧ mw (fun y r1 => ((x + p3 - 1) / p3 = y → K z r1) ∧ (¬ (x + p3 - 1) / p3 = y → False))) ∧ (¬ 0 < x → mw (fun y r1 => ((0 : Int32) = y → K z r1) ∧ (¬ (0 : Int32) = y → False)))) := by
      intro x ex
      refine ⟨fun a => ⟨hp0, fin _ (ref _ (fun q => absurd (b2.trans y) q) (fun _ x' ex' => ?_))⟩, fun a => fin _ (ref _ (fun q => absurd (b2.trans y) q) (fun _ x' ex' => ?_))⟩
      · rw [ex', ← ex]
        exact ⟨fun _ => ok _, fun b => absurd a b⟩
      · rw [ex', ← ex]
        exact ⟨fun b => absurd b a, fun _ => ok _⟩
    refine k_goodIn (by omega) (by omega) (fun a => ⟨fun x => absurd x (by decide), fun _ => ⟨hik, hin, both _ ?_⟩⟩) (fun a => ⟨fun _ => ⟨hik, hin, both _ ?_⟩, fun x => absurd rfl x⟩)
    · rw [if_pos (hg.trans a)]
    · rw [if_neg (fun b => a (hg.symm.trans b))]
