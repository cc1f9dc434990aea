/-! Restore on both sides. -/
def nwRestore (p1 : Int32) (u : RS) (P : Int32 → RS → Prop) : Prop := (pf_Mod_in p1 0 1 = 0 → P (-1) u) ∧ (¬ pf_Mod_in p1 0 1 = 0 → (vp_in (678 + p1) 4306 ∧ ((u.1 (678 + p1).toNatClampNeg = 0 → P (-2) u) ∧ (¬ u.1 (678 + p1).toNatClampNeg = 0 → P 0 u))))
def dwRestore (p1 : Int32) (u1 : RS) (P : Int32 → RS → Prop) : Prop := wp_Mod_copy u1 (226 + (226 * p1)) 0 226 (fun u2 => P (u2.1 (0 : Int32).toNatClampNeg) u2)
theorem restore_of (u : RS) (p1 : Int32) (Post : Int32 → RS → Prop) (h : nwRestore p1 u (fun x v => (x = 0 → wp_Mod_record v (fun v' => dwRestore p1 v' Post)) ∧ (¬ x = 0 → Post x v))) : wp_Mod_restore u p1 Post :=
  ⟨fun q => (h.1 q).2 (by decide), fun q => ⟨(h.2 q).1, fun y => ((h.2 q).2.1 y).2 (by decide), fun y => ((h.2 q).2.2 y).1 rfl⟩⟩
theorem p_restore {z : ZZ} {r : RS} (h : TRx z r) {K : ZZ → RS → Prop} (hK : ∀ z' r', TRx z' r' → K z' r') {p1 : Int32} {mw : (Int32 → RS → Prop) → Prop} (hmw : ∀ Post, wp_Mod_restore r p1 Post → mw Post) : wp_Ham_restore z p1 (fun x z1 => mw (fun y r1 => (x = y → K z1 r1) ∧ (¬ x = y → False))) := by
  refine actS_sim (cw := fun s P => wp_Sta_restoreSnapshot s p1 P) (nw := nwRestore p1) (dw := dwRestore p1) ?_ h hK (fun Post q => hmw Post (restore_of r p1 Post q))
  rintro ⟨c, t1, k1, t2, k2⟩ f f2 hs hs2 hff
  obtain ⟨s1, s2, s3, s4, s5, s6, s7⟩ := hs2
  have s1 : CR c f2 := s1
  have s3 : f2 678 = t1 := s3
  have s6 : f2 679 = t2 := s6
  by_cases hp : pf_Mod_in p1 0 1 = 0
  · refine Or.inl ⟨-1, by decide, fun Post q => ?_, fun u Post e q => ⟨fun _ => q, fun y => absurd hp y⟩⟩
    have hb := in15.mp hp
    show wp_Sta_restoreSnapshot (c, t1, k1, t2, k2) p1 Post
    unfold wp_Sta_restoreSnapshot
    refine ⟨fun _ => q, fun y => ⟨fun y2 => absurd ⟨?_, Int32.le_iff_toInt_le.mp y2⟩ hb, fun _ => q⟩⟩
    have : ¬ p1.toInt < (0 : Int32).toInt := fun x => y (Int32.lt_iff_toInt_lt.mpr x)
    omega
  · rcases is01 hp with e | e
    · subst e
      have hv : vp_in (678 + (0 : Int32)) 4306 := show vp_in (nI 678) 4306 from vp_in_nI (by omega) (by omega)
      have hc : (678 + (0 : Int32)).toNatClampNeg = 678 := by decide
      by_cases ht : t1 = 0
      · refine Or.inl ⟨-2, by decide, fun Post q => ?_, fun u Post e q => ⟨fun y => absurd y hp, fun _ => ⟨hv, fun _ => q, fun y => absurd ?_ y⟩⟩⟩
        · show wp_Sta_restoreSnapshot (c, t1, k1, t2, k2) 0 Post
          unfold wp_Sta_restoreSnapshot
          exact ⟨fun y => absurd y (by decide), fun _ => ⟨fun _ => ⟨fun _ => ⟨fun _ => q, fun y => absurd ht y⟩, fun y => absurd rfl y⟩, fun y => absurd (by decide) y⟩⟩
        · rw [hc, e, ← hff 678 (by omega), s3]
          exact ht
      · have h1 : t1 = 1 := Or.resolve_left s2 ht
        have hk := s4 h1
        have hk : CR k1 (fun i => f2 (226 + i)) := hk
        obtain ⟨a', ea, hcp⟩ := x_copyC (a := c) (CR_01 hk)
        obtain ⟨w, w1, w2, w3⟩ := CR_week (CR_eqC hk ea)
        refine Or.inr ⟨a'.1 0, (a', t1, k1, t2, k2), cpF f2 226 0 226, by rw [w2]; exact nI_nn (by omega), ?_, fun i hi => ?_, fun Post q => ?_, fun u Post e q => ⟨fun y => absurd y hp, fun _ => ⟨hv, fun y => absurd ?_ ht, fun _ => q⟩⟩, fun u Post e q => ?_⟩
        · have o : ∀ i, 226 ≤ i → cpF f2 226 0 226 i = f2 i := fun i hi => by unfold cpF; rw [if_neg (by omega)]
          refine ⟨CR_row (CR_eqC hk ea) (fun i hi => ?_), s2, (o 678 (by omega)).trans s3, fun q => CR_row (s4 q) (fun i hi => o (226 + i) (by omega)), s5, (o 679 (by omega)).trans s6, fun q => CR_row (s7 q) (fun i hi => o (452 + i) (by omega))⟩
          unfold cpF
          rw [if_pos (by omega), show 226 + (i - 0) = 226 + i by omega]
        · unfold cpF
          rw [if_neg (by omega)]
        · show wp_Sta_restoreSnapshot (c, t1, k1, t2, k2) 0 Post
          unfold wp_Sta_restoreSnapshot
          exact ⟨fun y => absurd y (by decide), fun _ => ⟨fun _ => ⟨fun _ => ⟨fun y => absurd y ht, fun _ => hcp _ q⟩, fun y => absurd rfl y⟩, fun y => absurd (by decide) y⟩⟩
        · rw [hc, e, ← hff 678 (by omega), s3] at y
          exact y
        · show dwRestore 0 u Post
          unfold dwRestore
          refine t_copy (a := 226) (b := 0) (n := 226) (by omega) (by omega) (by omega) ?_
          have x0 : (rR u (cpF u.1 226 0 226)).1 (0 : Int32).toNatClampNeg = a'.1 0 := by
            rw [c0]
            show cpF u.1 226 0 226 0 = _
            unfold cpF
            rw [if_pos (by omega), e, w2, ← w3]
          rw [x0]
          rw [← e] at q
          exact q
    · subst e
      have hv : vp_in (678 + (1 : Int32)) 4306 := show vp_in (nI 679) 4306 from vp_in_nI (by omega) (by omega)
      have hc : (678 + (1 : Int32)).toNatClampNeg = 679 := by decide
      by_cases ht : t2 = 0
      · refine Or.inl ⟨-2, by decide, fun Post q => ?_, fun u Post e q => ⟨fun y => absurd y hp, fun _ => ⟨hv, fun _ => q, fun y => absurd ?_ y⟩⟩⟩
        · show wp_Sta_restoreSnapshot (c, t1, k1, t2, k2) 1 Post
          unfold wp_Sta_restoreSnapshot
          exact ⟨fun y => absurd y (by decide), fun _ => ⟨fun _ => ⟨fun y => absurd y (by decide), fun _ => ⟨fun _ => q, fun y => absurd ht y⟩⟩, fun y => absurd (by decide) y⟩⟩
        · rw [hc, e, ← hff 679 (by omega), s6]
          exact ht
      · have h1 : t2 = 1 := Or.resolve_left s5 ht
        have hk := s7 h1
        have hk : CR k2 (fun i => f2 (452 + i)) := hk
        obtain ⟨a', ea, hcp⟩ := x_copyC (a := c) (CR_01 hk)
        obtain ⟨w, w1, w2, w3⟩ := CR_week (CR_eqC hk ea)
        refine Or.inr ⟨a'.1 0, (a', t1, k1, t2, k2), cpF f2 452 0 226, by rw [w2]; exact nI_nn (by omega), ?_, fun i hi => ?_, fun Post q => ?_, fun u Post e q => ⟨fun y => absurd y hp, fun _ => ⟨hv, fun y => absurd ?_ ht, fun _ => q⟩⟩, fun u Post e q => ?_⟩
        · have o : ∀ i, 226 ≤ i → cpF f2 452 0 226 i = f2 i := fun i hi => by unfold cpF; rw [if_neg (by omega)]
          refine ⟨CR_row (CR_eqC hk ea) (fun i hi => ?_), s2, (o 678 (by omega)).trans s3, fun q => CR_row (s4 q) (fun i hi => o (226 + i) (by omega)), s5, (o 679 (by omega)).trans s6, fun q => CR_row (s7 q) (fun i hi => o (452 + i) (by omega))⟩
          unfold cpF
          rw [if_pos (by omega), show 452 + (i - 0) = 452 + i by omega]
        · unfold cpF
          rw [if_neg (by omega)]
        · show wp_Sta_restoreSnapshot (c, t1, k1, t2, k2) 1 Post
          unfold wp_Sta_restoreSnapshot
          exact ⟨fun y => absurd y (by decide), fun _ => ⟨fun _ => ⟨fun y => absurd y (by decide), fun _ => ⟨fun y => absurd y ht, fun _ => hcp _ q⟩⟩, fun y => absurd (by decide) y⟩⟩
        · rw [hc, e, ← hff 679 (by omega), s6] at y
          exact y
        · show dwRestore 1 u Post
          unfold dwRestore
          refine t_copy (a := 452) (b := 0) (n := 226) (by omega) (by omega) (by omega) ?_
          have x0 : (rR u (cpF u.1 452 0 226)).1 (0 : Int32).toNatClampNeg = a'.1 0 := by
            rw [c0]
            show cpF u.1 452 0 226 0 = _
            unfold cpF
            rw [if_pos (by omega), e, w2, ← w3]
          rw [x0]
          rw [← e] at q
          exact q
