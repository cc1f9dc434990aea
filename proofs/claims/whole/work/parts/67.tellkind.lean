/-! Looking: what is told of a kind. -/
theorem p_hamper {z : ZZ} {r : RS} (h : TRx z r) {K : ZZ → RS → Prop} (hK : ∀ z' r', TRx z' r' → K z' r') {p1 p2 : Int32} {mw : (Int32 → RS → Prop) → Prop} (hmw : ∀ Post, wp_Mod_hamper r p1 p2 Post → mw Post) : wp_Ham_hamper z p1 p2 (fun x z1 => mw (fun y r1 => (x = y → K z1 r1) ∧ (¬ x = y → False))) := by
  obtain ⟨w, N, hc⟩ := h.cr
  have hN := hc.1.1.2.1
  have ok : ∀ e : Int32, (e = e → K z r) ∧ (¬ e = e → False) := fun e => ⟨fun _ => hK _ _ h, fun q => absurd rfl q⟩
  have fin : ∀ e : Int32, wp_Mod_hamper r p1 p2 (fun y r1 => (e = y → K z r1) ∧ (¬ e = y → False)) → mw (fun y r1 => (e = y → K z r1) ∧ (¬ e = y → False)) := fun e q => hmw _ q
  have i1 : pf_Mod_in p2 0 3 = 0 ↔ ¬ (0 ≤ p2.toInt ∧ p2.toInt ≤ 3) := in15
  unfold wp_Ham_hamper wp_Hmp_tell
  refine ⟨fun q => fin _ ?_, fun q => ?_⟩
  · unfold wp_Mod_hamper
    rw [isKind0]
    exact ⟨fun _ => ok _, fun y => absurd (hamK.mp q) y⟩
  · have hK1 : isK p1 := Classical.not_not.mp (fun y => q (hamK.mpr y))
    obtain ⟨k, hk, rfl⟩ := isK_of hK1
    have hik : vp_in (nI k) 4 := vp_in_nI hk (by omega)
    obtain ⟨d1, d2, d3, n, d4, d5, d6, d7⟩ := hc.1.2.2.2.2 k hk
    have e0 : r.1 (10 + 15 * k + 0) = z.1.2.1 7 k := d1.symm
    have e1 : r.1 (10 + 15 * k + 1) = z.1.2.1 8 k := d3.symm
    have e2 : r.1 (10 + 15 * k + 2) = nI n := d5
    have hcnt := row_count hN d4 d6 d7
    refine ⟨fun x => ?_, fun x => ?_, fun x => ?_, fun x => ?_, fun x0 x1 x2 x3 => fin _ ?_⟩
    · subst x
      rw [nI_clamp (by omega)]
      refine ⟨hik, fin _ ?_⟩
      unfold wp_Mod_hamper
      rw [isKind0, i1, okc0 hk, e0]
      exact ⟨fun y => absurd hK1 y, fun _ => ⟨fun y => absurd (by decide) y, fun _ => ⟨fun y => absurd y (by decide), fun _ => ⟨oki0 hk, ok _⟩⟩⟩⟩
    · subst x
      rw [nI_clamp (by omega)]
      refine ⟨hik, fin _ ?_⟩
      unfold wp_Mod_hamper
      rw [isKind0, i1, okc1 hk, e1]
      exact ⟨fun y => absurd hK1 y, fun _ => ⟨fun y => absurd (by decide) y, fun _ => ⟨fun y => absurd y (by decide), fun _ => ⟨oki1 hk, ok _⟩⟩⟩⟩
    · subst x
      refine k_keptOf (fin _ ?_)
      unfold wp_Mod_hamper
      rw [isKind0, i1]
      refine ⟨fun y => absurd hK1 y, fun _ => ⟨fun y => absurd (by decide) y, fun _ => ⟨fun _ => ⟨fun _ => t_keptOf hc.1 hk ?_, fun y => absurd rfl y⟩, fun y => absurd (by decide) y⟩⟩⟩
      have et : fb_ct (kb z.1 k) 12 = fb_ct (kb z.1 k) N := by
        have := fb_ct_tail (p := kb z.1 k) (N := N) (12 - N) (fun m m1 m2 => decide_eq_false (fun y => neg9_ne hk ((hc.1.2.2.2.1 m m1 (by omega)).2.2.2.2.2.2.1.symm.trans y.1)))
        rw [show N + (12 - N) = 12 by omega] at this
        exact this
      rw [et]
      exact ok _
    · subst x
      refine k_rowLength (fin _ ?_)
      unfold wp_Mod_hamper
      rw [isKind0, i1, okc2 hk, e2, hcnt]
      exact ⟨fun y => absurd hK1 y, fun _ => ⟨fun y => absurd (by decide) y, fun _ => ⟨fun _ => ⟨fun y => absurd y (by decide), fun _ => ⟨oki2 hk, ok _⟩⟩, fun y => absurd (by decide) y⟩⟩⟩
    · unfold wp_Mod_hamper
      rw [isKind0, i1]
      refine ⟨fun y => absurd hK1 y, fun _ => ⟨fun _ => ok _, fun y => ?_⟩⟩
      have y' := Classical.not_not.mp y
      obtain ⟨j, hj, e⟩ := lit_of (n := 3) (by omega) y'.1 y'.2
      have : j = 0 ∨ j = 1 ∨ j = 2 ∨ j = 3 := by omega
      rcases this with rfl | rfl | rfl | rfl
      · exact absurd e x0
      · exact absurd e x1
      · exact absurd e x2
      · exact absurd e x3
