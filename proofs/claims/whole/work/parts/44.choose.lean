/-! Choosing and giving up, as one change on both sides. -/
theorem hamK {k : Int32} : pf_Ham_isKind k = 0 ↔ ¬ isK k := by
  unfold pf_Ham_isKind isK
  simp only [Int32.le_iff_toInt_le, Int32.lt_iff_toInt_lt, show (0 : Int32).toInt = 0 from rfl, show (4 : Int32).toInt = 4 from rfl]
  by_cases h1 : 0 ≤ k.toInt
  · by_cases h2 : k.toInt < 4
    · rw [if_pos h1, if_pos h2]
      exact ⟨fun q => absurd q (by decide), fun q => absurd ⟨h1, by omega⟩ q⟩
    · rw [if_pos h1, if_neg h2]
      exact ⟨fun _ q => h2 (by omega), fun _ => rfl⟩
  · rw [if_neg h1]
    exact ⟨fun _ q => h1 q.1, fun _ => rfl⟩
theorem isK_nI {k : Nat} (hk : k < 4) : isK (nI k) := by
  unfold isK
  rw [nI_toInt (by omega)]
  omega
theorem hamK1 {k : Nat} (hk : k < 4) : ¬ pf_Ham_isKind (nI k) = 0 := fun q => hamK.mp q (isK_nI hk)
theorem hamK9 : pf_Ham_isKind (-9) = 0 := by decide
/-- a member's choice: none or a kind -/
theorem ch_cases {c : CS} {g : Nat → Int32} {w N j : Nat} (h : CP c g w N) (hj : j < 12) : c.2.1 9 j = -9 ∨ ∃ k, k < 4 ∧ c.2.1 9 j = nI k := by
  obtain ⟨-, -, -, -, b5, -⟩ := h.2.2.1 j hj
  rcases b5 with z | z
  · exact Or.inl z.1
  · exact Or.inr z
theorem se_pf {c c' : CS} {g g' : Nat → Int32} {N : Nat} (hp : PF c c' g g') (h : SE c N) (hu : c.1 1 = 0) : SE c' N := by
  unfold SE
  rw [hp.1]
  exact ⟨h.1, fun q => absurd (hu.symm.trans q) (by decide)⟩
theorem sim_giveUp (c : CS) (p : Int32) : OpSim (fun P => wp_Clb_giveUpChoice c p P) (fun u P => wp_Mod_noGiveUp u p P) (fun u P => vp_in (pf_Mod_of p 3) 4306 ∧ ∀ x4 : Int32, x4 = (u.1 (pf_Mod_of p 3).toNatClampNeg) → wp_Mod_drop u p (fun _ u5 => P x4 u5)) c := by
  intro f f2 w N h h2
  have hg := h.rg
  have hN := hg.2.1
  have hc4 : c.1 4 = nI N := h.1.1.2.2.2.2.1
  by_cases hM : isM N p
  · obtain ⟨j, hj, rfl⟩ := isM_of hM hN
    have b4 := (h.1.2.1 j hj).2.2.2.1
    have hin : vp_in (nI j) 12 := vp_in_nI (by omega) (by omega)
    have hst : f 2 = c.1 1 := h.1.1.2.2.2.2.2.2.2
    rcases ch_cases h.1 (show j < 12 by omega) with hc | ⟨k, hk, hc⟩
    · refine Or.inl ⟨-2, by decide, fun Post q => ?_, fun u Post e q => t_noGiveUp (w := w) (N := N) (by rw [e]; exact hg) (fun z => absurd (by rw [e]; exact hg.memR.mpr hM) z) (fun j' hj' e' => ?_)⟩
      · show wp_Clb_giveUpChoice c (nI j) Post
        unfold wp_Clb_giveUpChoice
        refine k_exists hc4 hN (fun _ => ⟨fun q => absurd q (by decide), fun _ => ?_⟩) (fun q => absurd hM q)
        simp only [nI_clamp (show j < 2 ^ 31 by omega), forall_eq, hc]
        exact ⟨hin, fun _ => q, fun z => absurd hamK9 z⟩
      · have ej : j = j' := (nI_eq (by omega) (by omega)).mp e'
        subst ej
        refine ⟨fun _ => q, fun z => absurd (Or.inr ?_) z⟩
        rw [e, b4]
        exact hc
    · have hu : c.1 1 = 0 := by
        refine h.1.1.2.2.2.2.2.2.1.resolve_right (fun z => ?_)
        exact neg9_ne hk ((h.2.2.2 z j (by omega)).2.symm.trans hc)
      obtain ⟨x, c', g', hx, hcp, hdf, hcl, hrf⟩ := drop_sim h2.1 hj hk hc
      refine Or.inr ⟨nI k, c', g', w, N, nI_nn (by omega), ⟨hcp, hdf.pf.ca0 h2.2.1, se_pf hdf.pf h2.2.2 hu⟩, hdf.2.2.2.2.2.1, fun Post q => ?_, fun u Post e q => t_noGiveUp (w := w) (N := N) (by rw [e]; exact hg) (fun z => absurd (by rw [e]; exact hg.memR.mpr hM) z) (fun j' hj' e' => ?_), fun u Post e q => ?_⟩
      · show wp_Clb_giveUpChoice c (nI j) Post
        unfold wp_Clb_giveUpChoice
        refine k_exists hc4 hN (fun _ => ⟨fun q => absurd q (by decide), fun _ => ?_⟩) (fun q => absurd hM q)
        simp only [nI_clamp (show j < 2 ^ 31 by omega), forall_eq, hc]
        exact ⟨hin, fun z => absurd z (hamK1 hk), fun _ => hcl _ q⟩
      · have ej : j = j' := (nI_eq (by omega) (by omega)).mp e'
        subst ej
        refine ⟨fun z => absurd z ?_, fun _ => q⟩
        unfold bGu
        rw [e, b4, hst, hu, hc]
        exact fun z => z.elim (fun z => absurd z (by decide)) (fun z => neg9_ne hk z.symm)
      · show vp_in (pf_Mod_of (nI j) 3) 4306 ∧ _
        rw [ofc3 (by omega)]
        refine ⟨ofi3 (by omega), ?_⟩
        intro x4 e4
        have : x4 = nI k := by
          rw [e4, e]
          show mb f2 j 3 = _
          rw [(h2.1.2.1 j hj).2.2.2.1]
          exact hc
        rw [this]
        exact hrf u _ e q
  · refine Or.inl ⟨-1, by decide, fun Post q => ?_, fun u Post e q => t_noGiveUp (w := w) (N := N) (by rw [e]; exact hg) (fun _ => q) (fun j hj e' => absurd (by rw [e']; exact isM_nI hj hN) hM)⟩
    show wp_Clb_giveUpChoice c p Post
    unfold wp_Clb_giveUpChoice
    exact k_exists hc4 hN (fun z => absurd z hM) (fun _ => ⟨fun _ => q, fun z => absurd rfl z⟩)
theorem sim_choose (c : CS) (p k : Int32) : OpSim (fun P => wp_Clb_chooseKind c p k P) (fun u P => wp_Mod_noChoose u p k P) (fun u P => wp_Mod_doChoose u p k P) c := by
  intro f f2 w N h h2
  have hg := h.rg
  have hN := hg.2.1
  have hc4 : c.1 4 = nI N := h.1.1.2.2.2.2.1
  have hst : f 2 = c.1 1 := h.1.1.2.2.2.2.2.2.2
  by_cases hA : isM N p ∧ isK k
  · obtain ⟨hM, hK⟩ := hA
    obtain ⟨j, hj, rfl⟩ := isM_of hM hN
    obtain ⟨i, hi, rfl⟩ := isK_of hK
    have b4 := (h.1.2.1 j hj).2.2.2.1
    have hin : vp_in (nI j) 12 := vp_in_nI (by omega) (by omega)
    by_cases hB : c.1 1 = 1 ∨ c.2.1 9 j = nI i
    · refine Or.inl ⟨-2, by decide, fun Post q => ?_, fun u Post e q => t_noChoose (w := w) (N := N) (by rw [e]; exact hg) (fun z => absurd ⟨(by rw [e]; exact hg.memR.mpr hM), hK⟩ z) (fun j' i' hj' e' hi' ei' => ?_)⟩
      · show wp_Clb_chooseKind c (nI j) (nI i) Post
        unfold wp_Clb_chooseKind
        refine k_exists hc4 hN (fun _ => ⟨fun q => absurd q (by decide), fun _ => ?_⟩) (fun q => absurd hM q)
        simp only [nI_clamp (show j < 2 ^ 31 by omega), forall_eq]
        refine ⟨fun z => absurd z (hamK1 hi), fun _ => ⟨hin, fun z => ⟨fun _ => q, fun z2 => ?_⟩, fun _ => q⟩⟩
        exact absurd hB (fun y => y.elim (fun y => absurd (z.symm.trans y) (by decide)) z2)
      · have ej : j = j' := (nI_eq (by omega) (by omega)).mp e'
        have ei : i = i' := (nI_eq (by omega) (by omega)).mp ei'
        subst ej ei
        refine ⟨fun _ => q, fun z => absurd ?_ z⟩
        unfold bCh
        rw [e, b4, hst]
        exact hB
    · have hu : c.1 1 = 0 := h.1.1.2.2.2.2.2.2.1.resolve_right (fun z => hB (Or.inl z))
      have hne : ¬ c.2.1 9 j = nI i := fun z => hB (Or.inr z)
      have no : ∀ (u : RS) (Post : Int32 → RS → Prop), u.1 = f → Post 0 u → wp_Mod_noChoose u (nI j) (nI i) Post := fun u Post e q => t_noChoose (w := w) (N := N) (by rw [e]; exact hg) (fun z => absurd ⟨(by rw [e]; exact hg.memR.mpr hM), hK⟩ z) (fun j' i' hj' e' hi' ei' => by
        have ej : j = j' := (nI_eq (by omega) (by omega)).mp e'
        have ei : i = i' := (nI_eq (by omega) (by omega)).mp ei'
        subst ej ei
        refine ⟨fun z => absurd ?_ hB, fun _ => q⟩
        unfold bCh at z
        rw [e, b4, hst] at z
        exact z)
      rcases ch_cases h.1 (show j < 12 by omega) with hc | ⟨k, hk, hc⟩
      · obtain ⟨x, c', g', hx, hcp, hpf, hcl, hrf⟩ := put_sim h2.1 hj hi hc
        refine Or.inr ⟨x, c', g', w, N, hx, ⟨hcp, hpf.ca0 h2.2.1, se_pf hpf h2.2.2 hu⟩, hpf.2.2.1, fun Post q => ?_, no, fun u Post e q => ?_⟩
        · show wp_Clb_chooseKind c (nI j) (nI i) Post
          unfold wp_Clb_chooseKind
          refine k_exists hc4 hN (fun _ => ⟨fun q => absurd q (by decide), fun _ => ?_⟩) (fun q => absurd hM q)
          simp only [nI_clamp (show j < 2 ^ 31 by omega), forall_eq]
          refine ⟨fun z => absurd z (hamK1 hi), fun _ => ⟨hin, fun _ => ⟨fun z => absurd z hne, fun _ => ⟨fun _ => hcl _ q, fun z => absurd ?_ z⟩⟩, fun z => absurd hu z⟩⟩
          rw [hc]
          exact hamK9
        · show wp_Mod_doChoose u (nI j) (nI i) Post
          rw [doChoose_eq, ofc3 (by omega)]
          have e3 : u.1 (70 + 13 * j + 3) = -9 := by
            rw [e]
            exact ((h2.1.2.1 j hj).2.2.2.1).trans hc
          exact ⟨ofi3 (by omega), fun _ => hrf u _ e q, fun z => absurd e3 z⟩
      · obtain ⟨x1, c1, g1, hx1, hcp1, hdf1, hcl1, hrf1⟩ := drop_sim h2.1 hj hk hc
        have hc1 : c1.2.1 9 j = -9 := by
          rw [hdf1.2.2.2.1]
          exact if_pos rfl
        obtain ⟨x, c', g', hx, hcp, hpf, hcl, hrf⟩ := put_sim hcp1 hj hi hc1
        have hu1 : c1.1 1 = 0 := by rw [hdf1.1]; exact hu
        refine Or.inr ⟨x, c', g', w, N, hx, ⟨hcp, hpf.ca0 (hdf1.pf.ca0 h2.2.1), se_pf hpf (se_pf hdf1.pf h2.2.2 hu) hu1⟩, fun o ho => (hpf.2.2.1 o ho).trans (hdf1.2.2.2.2.2.1 o ho), fun Post q => ?_, no, fun u Post e q => ?_⟩
        · show wp_Clb_chooseKind c (nI j) (nI i) Post
          unfold wp_Clb_chooseKind
          refine k_exists hc4 hN (fun _ => ⟨fun q => absurd q (by decide), fun _ => ?_⟩) (fun q => absurd hM q)
          simp only [nI_clamp (show j < 2 ^ 31 by omega), forall_eq]
          refine ⟨fun z => absurd z (hamK1 hi), fun _ => ⟨hin, fun _ => ⟨fun z => absurd z hne, fun _ => ⟨fun z => absurd z ?_, fun _ => ?_⟩⟩, fun z => absurd hu z⟩⟩
          · rw [hc]
            exact hamK1 hk
          · rw [hc]
            exact hcl1 _ (hcl _ q)
        · show wp_Mod_doChoose u (nI j) (nI i) Post
          rw [doChoose_eq, ofc3 (by omega)]
          have e3 : u.1 (70 + 13 * j + 3) = nI k := by
            rw [e]
            exact ((h2.1.2.1 j hj).2.2.2.1).trans hc
          refine ⟨ofi3 (by omega), fun z => absurd (e3.symm.trans z) (fun y => neg9_ne hk y.symm), fun _ => hrf1 u _ e ?_⟩
          exact hrf _ _ rfl q
  · refine Or.inl ⟨-1, by decide, fun Post q => ?_, fun u Post e q => t_noChoose (w := w) (N := N) (by rw [e]; exact hg) (fun _ => q) (fun j i hj e' hi ei => absurd ⟨(by rw [e']; exact isM_nI hj hN), (by rw [ei]; exact isK_nI hi)⟩ hA)⟩
    show wp_Clb_chooseKind c p k Post
    unfold wp_Clb_chooseKind
    exact k_exists hc4 hN (fun hM => ⟨fun q => absurd q (by decide), fun _ => ⟨fun _ => q, fun z => absurd (hamK.mpr (fun y => hA ⟨hM, y⟩)) z⟩⟩) (fun _ => ⟨fun _ => q, fun z => absurd rfl z⟩)
