/-! Text and undo, on both sides. -/
theorem p_clearText {z : ZZ} {r : RS} (h : TRx z r) {K : ZZ → RS → Prop} (hK : ∀ z' r', TRx z' r' → K z' r') {mw : (Int32 → RS → Prop) → Prop} (hmw : ∀ Post, wp_Mod_clearText r Post → mw Post) : wp_Ham_clearText z (fun x z1 => mw (fun y r1 => (x = y → K z1 r1) ∧ (¬ x = y → False))) := by
  obtain ⟨c, t1, k1, t2, k2, his, fr, ord, tr⟩ := z
  obtain ⟨hSR, hHR, l, hl, o1, o2, o3⟩ := h
  unfold wp_Ham_clearText
  simp only [forall_eq]
  refine hmw _ ?_
  unfold wp_Mod_clearText
  simp only [forall_eq]
  have e : ord.1 0 = r.2.2.2 1 := o1.trans o2.symm
  refine ⟨fun _ => hK _ _ ⟨hSR, ?_, 0, by omega, rfl, rfl, fun i hi => by omega⟩, fun q => absurd e q⟩
  obtain ⟨p, n, h1, h2, h3, h4, h5, h6⟩ := hHR
  exact ⟨p, n, h1, h2, h3, h4, h5, h6⟩
theorem p_append {z : ZZ} {r : RS} (h : TRx z r) {K : ZZ → RS → Prop} (hK : ∀ z' r', TRx z' r' → K z' r') {p1 : Int32} {mw : (Int32 → RS → Prop) → Prop} (hmw : ∀ Post, wp_Mod_append r p1 Post → mw Post) : wp_Ham_append z p1 (fun x z1 => mw (fun y r1 => (x = y → K z1 r1) ∧ (¬ x = y → False))) := by
  have hT := h
  obtain ⟨c, t1, k1, t2, k2, his, fr, ord, tr⟩ := z
  obtain ⟨hSR, hHR, l, hl, o1, o2, o3⟩ := h
  have o1 : ord.1 0 = nI l := o1
  have i1 : pf_Mod_in p1 1 255 = 0 ↔ ¬ (1 ≤ p1.toInt ∧ p1.toInt ≤ 255) := in15
  have bad : ¬ (1 ≤ p1.toInt ∧ p1.toInt ≤ 255) → mw (fun y r1 => ((-1 : Int32) = y → K (c, t1, k1, t2, k2, his, fr, ord, tr) r1) ∧ (¬ (-1 : Int32) = y → False)) := by
    intro hb
    refine hmw _ ?_
    unfold wp_Mod_append
    rw [i1]
    exact ⟨fun _ => ⟨fun _ => hK _ _ hT, fun q => absurd rfl q⟩, fun q => absurd hb q⟩
  unfold wp_Ham_append
  refine ⟨fun q => bad (fun y => ?_), fun q => ⟨fun q2 => ?_, fun q2 => bad (fun y => ?_)⟩⟩
  · have := Int32.lt_iff_toInt_lt.mp q
    have e : (1 : Int32).toInt = 1 := rfl
    omega
  · have hg : 1 ≤ p1.toInt ∧ p1.toInt ≤ 255 := by
      have a := Int32.le_iff_toInt_le.mp q2
      have b : ¬ p1.toInt < (1 : Int32).toInt := fun y => q (Int32.lt_iff_toInt_lt.mpr y)
      have e : (1 : Int32).toInt = 1 := rfl
      have e2 : (255 : Int32).toInt = 255 := rfl
      omega
    unfold wp_Ord_add
    simp only [forall_eq]
    refine ⟨fun q3 => ?_, fun q3 => ?_⟩
    · have q3 : ord.1 0 < 100 := q3
      have hl' : l < 100 := by
        rcases Nat.lt_or_ge l 100 with y | y
        · exact y
        · rw [o1] at q3
          exact absurd (nI_le (a := 100) y (by omega)) (Int32.not_le.mpr q3)
      refine ⟨by show vp_in (ord.1 0) 100; rw [o1]; exact vp_in_nI hl' (by omega), fun y => absurd y (by decide), fun _ => hmw _ ?_⟩
      unfold wp_Mod_append
      rw [i1, o2]
      refine ⟨fun y => absurd hg y, fun _ => ⟨fun y => ?_, fun _ => ⟨vp_in_nI hl' (by omega), ?_⟩⟩⟩
      · have := (nI_eq (b := 100) (by omega) (by omega)).mp y
        omega
      · intro u1 e1 u2 e2
        rw [e2, e1, nI_clamp (show l < 2 ^ 31 by omega)]
        have eL : (ord.1 0) + 1 = r.2.2.2 1 + 1 := by rw [o1, o2]
        refine ⟨fun _ => hK _ _ ⟨hSR, ?_, l + 1, by omega, ?_, ?_, fun i hi => ?_⟩, fun y => absurd eL y⟩
        · obtain ⟨p, n, h1, h2, h3, h4, h5, h6⟩ := hHR
          exact ⟨p, n, h1, h2, h3, h4, h5, h6⟩
        · show ord.1 0 + 1 = _
          rw [o1, nI_1]
        · show r.2.2.2 1 + 1 = _
          rw [o2, nI_1]
        · show upd ord.2 (ord.1 0).toNatClampNeg p1 i = upd r.2.1 l p1 i
          rw [o1, nI_clamp (by omega), upd_if, upd_if]
          by_cases y : i = l
          · rw [if_pos y, if_pos y]
          · rw [if_neg y, if_neg y]
            exact o3 i (by omega)
    · have q3 : ¬ ord.1 0 < 100 := q3
      have hl' : l = 100 := by
        rcases Nat.lt_or_ge l 100 with y | y
        · rw [o1] at q3
          exact absurd (nI_lt (b := 100) y (by omega)) q3
        · omega
      refine ⟨fun _ => hmw _ ?_, fun y => absurd trivial y⟩
      unfold wp_Mod_append
      rw [i1, o2, hl']
      exact ⟨fun y => absurd hg y, fun _ => ⟨fun _ => ⟨fun _ => hK _ _ hT, fun y => absurd rfl y⟩, fun y => absurd rfl y⟩⟩
  · have a : p1.toInt ≤ (255 : Int32).toInt := by
      have e2 : (255 : Int32).toInt = 255 := rfl
      omega
    exact q2 (Int32.le_iff_toInt_le.mpr a)
