/-! Looking: who waits at a place. -/
theorem nI_self {p : Int32} (h : 0 ≤ p.toInt) : p = nI p.toNatClampNeg ∧ p.toNatClampNeg < 2 ^ 31 := by
  have hlt := Int32.toInt_lt p
  have e : p.toNatClampNeg = p.toInt.toNat := rfl
  have hb : p.toNatClampNeg < 2 ^ 31 := by
    rw [e]
    omega
  refine ⟨Int32.toInt_inj.mp ?_, hb⟩
  rw [nI_toInt hb, e]
  omega
theorem p_waiting {z : ZZ} {r : RS} (h : TRx z r) {K : ZZ → RS → Prop} (hK : ∀ z' r', TRx z' r' → K z' r') {p1 p2 : Int32} {mw : (Int32 → RS → Prop) → Prop} (hmw : ∀ Post, wp_Mod_waiting r p1 p2 Post → mw Post) : wp_Ham_waiting z p1 p2 (fun x z1 => mw (fun y r1 => (x = y → K z1 r1) ∧ (¬ x = y → False))) := by
  obtain ⟨w, N, hc⟩ := h.cr
  have hN := hc.1.1.2.1
  have ok : ∀ e : Int32, (e = e → K z r) ∧ (¬ e = e → False) := fun e => ⟨fun _ => hK _ _ h, fun q => absurd rfl q⟩
  have fin : ∀ e : Int32, wp_Mod_waiting r p1 p2 (fun y r1 => (e = y → K z r1) ∧ (¬ e = y → False)) → mw (fun y r1 => (e = y → K z r1) ∧ (¬ e = y → False)) := fun e q => hmw _ q
  unfold wp_Ham_waiting
  refine ⟨fun q => fin _ ?_, fun q => ⟨fun q2 => ?_, fun q2 => fin _ ?_⟩⟩
  · unfold wp_Mod_waiting
    rw [isKind0]
    exact ⟨fun _ => ok _, fun y => absurd (hamK.mp q) y⟩
  · have hK1 : isK p1 := Classical.not_not.mp (fun y => q (hamK.mpr y))
    obtain ⟨k, hk, rfl⟩ := isK_of hK1
    have h0 : 0 ≤ p2.toInt := Int32.le_iff_toInt_le.mp q2
    obtain ⟨ea, ha⟩ := nI_self h0
    generalize p2.toNatClampNeg = a at ea ha
    subst ea
    obtain ⟨d1, d2, d3, n, d4, d5, d6, d7⟩ := hc.1.2.2.2.2 k hk
    have d5' : r.1 (10 + 15 * k + 2) = nI n := d5
    have wt : ∀ m, m < 12 → PW z.1 k a m → a < n ∧ kd r.1 k (3 + a) = nI m := by
      rintro m hm ⟨x1, x2, x3⟩
      rcases d7 m hm x1 with y | ⟨i, y1, y2, y3⟩
      · exact absurd (by rw [y]; decide) x2
      · rw [y2, nI_m1] at x3
        have : i = a := (nI_eq (by omega) ha).mp x3
        subst this
        exact ⟨y1, y3⟩
    have ref : ∀ e : Int32, (n ≤ a → e = -9) → (a < n → e = kd r.1 k (3 + a)) → mw (fun y r1 => (e = y → K z r1) ∧ (¬ e = y → False)) := by
      intro e g1 g2
      refine fin _ ?_
      unfold wp_Mod_waiting
      rw [isKind0, okc2 hk, d5']
      refine ⟨fun y => absurd hK1 y, fun _ => ⟨fun _ => ⟨oki2 hk, fun y => ?_, fun y => ?_⟩, fun y => absurd q2 y⟩⟩
      · have hna : n ≤ a := by
          rcases Nat.lt_or_ge a n with x | x
          · exact absurd y (nI_ge x (by omega))
          · exact x
        rw [g1 hna]
        exact ok _
      · have hna : a < n := Nat.lt_of_not_le (fun x => y (nI_le x ha))
        rw [i3, ok_cl hk (by omega)]
        refine ⟨ok_in hk (by omega), ?_⟩
        rw [g2 hna]
        exact ok _
    refine k_mir (fun m hm hp _ => ?_) (fun hno => ?_)
    · obtain ⟨y1, y2⟩ := wt m hm hp
      exact ref _ (fun x => by omega) (fun _ => y2.symm)
    · refine ref _ (fun _ => rfl) (fun x => ?_)
      obtain ⟨m, m1, m2, m3, m4⟩ := d6 a x
      exact absurd ⟨m3, by rw [m4]; exact le0_pos (by omega), by rw [m4, nI_m1]⟩ (hno m (by omega))
  · unfold wp_Mod_waiting
    have hK1 : isK p1 := Classical.not_not.mp (fun y => q (hamK.mpr y))
    rw [isKind0]
    exact ⟨fun y => absurd hK1 y, fun _ => ⟨fun y => absurd y q2, fun _ => ok _⟩⟩
