/-! withdraw, mislay, find on both sides. -/
theorem k_payMember {c : CS} {j : Nat} {v : Int32} {Post : CS → Prop} (hj : j < 12) (h : Post (payC c j v)) : wp_Clb_payMember c (nI j) v Post := by
  unfold wp_Clb_payMember wp_Acc_payOut
  simp only [nI_clamp (show j < 2 ^ 31 by omega), forall_eq]
  exact ⟨vp_in_nI hj (by omega), vp_in_nI hj (by omega), h⟩
theorem charge_eq (k : Int32) : (if k * 10 < k + 5 then k * 10 else k + 5) = charge k := by
  unfold charge
  rw [Int32.mul_comm k 10]
  by_cases h : 10 * k < k + 5
  · rw [if_pos h, if_pos (Int32.le_of_lt h)]
  · rw [if_neg h]
    by_cases h2 : 10 * k ≤ k + 5
    · rw [if_pos h2]
      exact Int32.le_antisymm (Int32.not_lt.mp h) h2
    · rw [if_neg h2]
theorem charge_nn {n : Nat} (h : n ≤ 999) (h1 : 1 ≤ n) : 0 ≤ 10 * nI n - charge (nI n) := by
  unfold charge
  rw [show (10 : Int32) = nI 10 from rfl, show (5 : Int32) = nI 5 from rfl, pk_mul, nI_add]
  by_cases h2 : nI (10 * n) ≤ nI (n + 5)
  · rw [if_pos h2, pk_sub (Nat.le_refl _), Nat.sub_self]
    decide
  · rw [if_neg h2]
    have h3 : ¬ 10 * n ≤ n + 5 := fun q => h2 (nI_le q (by omega))
    rw [pk_sub (by omega)]
    exact nI_nn (by omega)
theorem sim_withdraw (c : CS) (p k : Int32) : OpSim (fun P => wp_Clb_withdrawStamps c p k P) (fun u P => wp_Mod_noWithdraw u p k P) (fun u P => wp_Mod_doWithdraw u p k P) c := by
  intro f f2 w N h h2
  have hg := h.rg
  have hN := hg.2.1
  have hc4 : c.1 4 = nI N := h.1.1.2.2.2.2.1
  by_cases hA : isM N p ∧ 1 ≤ k.toInt ∧ k.toInt ≤ 999
  · obtain ⟨hM, hk⟩ := hA
    obtain ⟨j, hj, rfl⟩ := isM_of hM hN
    obtain ⟨b1, b2, b3, b4, b5, b6, b7, b8, b9, b10⟩ := h.1.2.1 j hj
    obtain ⟨n, hn, ek⟩ := lit_of (n := 999) (by omega) (by omega) hk.2
    have hn1 : 1 ≤ n := by
      have := hk.1
      rw [ek, nI_toInt (by omega)] at this
      omega
    have cls : ∀ Post : Int32 → CS → Prop, ((¬ c.2.1 1 j = 0 ∨ c.2.1 0 j < k) → Post (-2) c) → (c.2.1 1 j = 0 → ¬ c.2.1 0 j < k → Post (10 * k - charge k) (wdC c j k)) → wp_Clb_withdrawStamps c (nI j) k Post := by
      intro Post q1 q2
      unfold wp_Clb_withdrawStamps
      refine k_exists hc4 hN (fun _ => ⟨fun q => absurd q (by decide), fun _ => ?_⟩) (fun q => absurd hM q)
      refine ⟨fun q => absurd (Int32.lt_iff_toInt_lt.mp q) (by show ¬ k.toInt < 1; omega), fun _ => ⟨fun _ => ?_, fun q => absurd (Int32.le_iff_toInt_le.mpr (show k.toInt ≤ (999 : Int32).toInt from hk.2)) q⟩⟩
      refine k_inHand (by omega) (fun q3 => ⟨fun q => absurd q (by decide), fun _ => ?_⟩) (fun q3 => ⟨fun _ => q1 (Or.inl q3), fun q => absurd rfl q⟩)
      have hin : vp_in (nI j) 12 := vp_in_nI (by omega) (by omega)
      simp only [nI_clamp (show j < 2 ^ 31 by omega), forall_eq, charge_eq]
      refine ⟨hin, fun q4 => ?_, fun q4 => q1 (Or.inr (Int32.not_le.mp q4))⟩
      have q5 := q2 q3 (Int32.not_lt.mpr q4)
      refine ⟨hin, hin, hin, k_payMember (by omega) ?_⟩
      unfold wdC at q5
      rw [Int32.mul_comm k 10]
      exact q5
    by_cases hB : c.1 1 = 1 ∨ ¬ c.2.1 1 j = 0 ∨ c.2.1 0 j < k
    · refine Or.inl ⟨-2, by decide, fun Post q => cls Post (fun _ => q) (fun q1 q2 => ?_), fun u Post e q => t_noWithdraw (w := w) (N := N) (by rw [e]; exact hg) (fun z => absurd ⟨(by rw [e]; exact hg.memR.mpr hM), hk⟩ z) (fun j' hj' e' _ _ => ?_)⟩
      · rcases hB with z | z | z
        · have := (h.2.2.2 z j (by omega)).1 hj
          rw [this] at q1
          exact absurd q1 (by decide)
        · exact absurd q1 z
        · exact absurd z q2
      · have ej : j = j' := (nI_eq (by omega) (by omega)).mp e'
        subst ej
        refine ⟨fun _ => q, fun z => absurd ?_ z⟩
        unfold bWd
        rw [e, b1, b2, h.1.1.2.2.2.2.2.2.2]
        exact hB
    · have hu : c.1 1 = 0 := h.1.1.2.2.2.2.2.2.1.resolve_right (fun z => hB (Or.inl z))
      have hs : c.2.1 1 j = 0 := Decidable.not_not.mp (fun z => hB (Or.inr (Or.inl z)))
      have hb : ¬ c.2.1 0 j < k := fun z => hB (Or.inr (Or.inr z))
      have hr : CRw (wdC c j k) (wdF f2 j k) w N := by
        rw [ek]
        exact wd_rel h2 hj hn (by rw [← ek]; exact hb) hu
      refine Or.inr ⟨10 * k - charge k, wdC c j k, wdF f2 j k, w, N, by rw [ek]; exact charge_nn hn hn1, hr, fun i hi => ?_, fun Post q => cls Post (fun z => absurd z (by rintro (z | z); exact z hs; exact hb z)) (fun _ _ => q), fun u Post e q => t_noWithdraw (w := w) (N := N) (by rw [e]; exact hg) (fun z => absurd ⟨(by rw [e]; exact hg.memR.mpr hM), hk⟩ z) (fun j' hj' e' _ _ => ?_), fun u Post e q => t_doWithdraw (by omega) (by rw [e]; exact q)⟩
      · unfold wdF payF
        simp only [out_setG (show 4 < 10 by omega) hi, out_setG (show 3 < 10 by omega) hi, out_setG (show 6 < 10 by omega) hi, out_setM (show j < 12 by omega) (show 10 < 13 by omega) hi, out_setM (show j < 12 by omega) (show 5 < 13 by omega) hi, out_setM (show j < 12 by omega) (show 0 < 13 by omega) hi]
      · have ej : j = j' := (nI_eq (by omega) (by omega)).mp e'
        subst ej
        refine ⟨fun z => absurd ?_ hB, fun _ => q⟩
        unfold bWd at z
        rw [e, b1, b2, h.1.1.2.2.2.2.2.2.2] at z
        exact z
  · refine Or.inl ⟨-1, by decide, fun Post q => ?_, fun u Post e q => t_noWithdraw (w := w) (N := N) (by rw [e]; exact hg) (fun _ => q) (fun j hj e' k1 k2 => absurd ⟨(by rw [e']; exact isM_nI hj hN), k1, k2⟩ hA)⟩
    show wp_Clb_withdrawStamps c p k Post
    unfold wp_Clb_withdrawStamps
    refine k_exists hc4 hN (fun hM => ⟨fun q => absurd q (by decide), fun _ => ?_⟩) (fun _ => ⟨fun _ => q, fun z => absurd rfl z⟩)
    refine ⟨fun _ => q, fun q1 => ⟨fun q2 => absurd ⟨hM, ?_, ?_⟩ hA, fun _ => q⟩⟩
    · have : ¬ k.toInt < 1 := fun z => q1 (Int32.lt_iff_toInt_lt.mpr z)
      omega
    · exact Int32.le_iff_toInt_le.mp q2
theorem sim_mislay (c : CS) (p : Int32) : OpSim (fun P => wp_Clb_mislayCard c p P) (fun u P => wp_Mod_noMislay u p P) (fun u P => wp_Mod_doMislay u p P) c := by
  intro f f2 w N h h2
  have hg := h.rg
  have hN := hg.2.1
  have hw := hg.1
  have hc4 : c.1 4 = nI N := h.1.1.2.2.2.2.1
  have hc0 : c.1 0 = nI w := h.1.1.2.2.1
  by_cases hM : isM N p
  · obtain ⟨j, hj, rfl⟩ := isM_of hM hN
    obtain ⟨b1, b2, b3, b4, b5, b6, b7, b8, b9, b10⟩ := h.1.2.1 j hj
    have cls : ∀ Post : Int32 → CS → Prop, (¬ c.2.1 1 j = 0 → Post (-2) c) → (c.2.1 1 j = 0 → Post (c.1 0 + 3) (misC c j)) → wp_Clb_mislayCard c (nI j) Post := by
      intro Post q1 q2
      unfold wp_Clb_mislayCard
      refine k_exists hc4 hN (fun _ => ⟨fun q => absurd q (by decide), fun _ => ?_⟩) (fun q => absurd hM q)
      refine k_inHand (by omega) (fun q3 => ⟨fun q => absurd q (by decide), fun _ => ?_⟩) (fun q3 => ⟨fun _ => q1 q3, fun q => absurd rfl q⟩)
      have hin : vp_in (nI j) 12 := vp_in_nI (by omega) (by omega)
      simp only [nI_clamp (show j < 2 ^ 31 by omega), forall_eq]
      exact ⟨hin, hin, q2 q3⟩
    by_cases hB : c.1 1 = 1 ∨ ¬ c.2.1 1 j = 0
    · refine Or.inl ⟨-2, by decide, fun Post q => cls Post (fun _ => q) (fun q1 => ?_), fun u Post e q => t_noMislay (w := w) (N := N) (by rw [e]; exact hg) (fun z => absurd (by rw [e]; exact hg.memR.mpr hM) z) (fun j' hj' e' => ?_)⟩
      · rcases hB with z | z
        · have := (h.2.2.2 z j (by omega)).1 hj
          rw [this] at q1
          exact absurd q1 (by decide)
        · exact absurd q1 z
      · have ej : j = j' := (nI_eq (by omega) (by omega)).mp e'
        subst ej
        refine ⟨fun _ => q, fun z => absurd ?_ z⟩
        unfold bMis
        rw [e, b2, h.1.1.2.2.2.2.2.2.2]
        exact hB
    · have hu : c.1 1 = 0 := h.1.1.2.2.2.2.2.2.1.resolve_right (fun z => hB (Or.inl z))
      have hs : c.2.1 1 j = 0 := Decidable.not_not.mp (fun z => hB (Or.inr z))
      have hr := mis_rel h2 hj hs hu
      refine Or.inr ⟨c.1 0 + 3, misC c j, misF f2 j, w, N, ?_, hr, fun i hi => ?_, fun Post q => cls Post (fun z => absurd hs z) (fun _ => q), fun u Post e q => t_noMislay (w := w) (N := N) (by rw [e]; exact hg) (fun z => absurd (by rw [e]; exact hg.memR.mpr hM) z) (fun j' hj' e' => ?_), fun u Post e q => t_doMislay (by omega) (by rw [e, h2.1.1.2.2.2.1, ← h2.1.1.2.2.1]; exact q)⟩
      · rw [hc0, show (3 : Int32) = nI 3 from rfl, nI_add]
        exact nI_nn (by omega)
      · unfold misF
        simp only [out_setM (show j < 12 by omega) (show 2 < 13 by omega) hi, out_setM (show j < 12 by omega) (show 1 < 13 by omega) hi]
      · have ej : j = j' := (nI_eq (by omega) (by omega)).mp e'
        subst ej
        refine ⟨fun z => absurd ?_ hB, fun _ => q⟩
        unfold bMis at z
        rw [e, b2, h.1.1.2.2.2.2.2.2.2] at z
        exact z
  · refine Or.inl ⟨-1, by decide, fun Post q => ?_, fun u Post e q => t_noMislay (w := w) (N := N) (by rw [e]; exact hg) (fun _ => q) (fun j hj e' => absurd (by rw [e']; exact isM_nI hj hN) hM)⟩
    show wp_Clb_mislayCard c p Post
    unfold wp_Clb_mislayCard
    exact k_exists hc4 hN (fun z => absurd z hM) (fun _ => ⟨fun _ => q, fun z => absurd rfl z⟩)
theorem sim_find (c : CS) (p : Int32) : OpSim (fun P => wp_Clb_findCard c p P) (fun u P => wp_Mod_noFind u p P) (fun u P => wp_Mod_doFind u p P) c := by
  intro f f2 w N h h2
  have hg := h.rg
  have hN := hg.2.1
  have hw := hg.1
  have hc4 : c.1 4 = nI N := h.1.1.2.2.2.2.1
  have hc0 : c.1 0 = nI w := h.1.1.2.2.1
  by_cases hM : isM N p
  · obtain ⟨j, hj, rfl⟩ := isM_of hM hN
    obtain ⟨b1, b2, b3, b4, b5, b6, b7, b8, b9, b10⟩ := h.1.2.1 j hj
    have cls : ∀ Post : Int32 → CS → Prop, (¬ c.2.1 1 j = 1 → Post (-2) c) → (c.2.1 1 j = 1 → Post (c.1 0 - c.2.1 2 j) (findC c j)) → wp_Clb_findCard c (nI j) Post := by
      intro Post q1 q2
      unfold wp_Clb_findCard
      refine k_exists hc4 hN (fun _ => ⟨fun q => absurd q (by decide), fun _ => ?_⟩) (fun q => absurd hM q)
      have hin : vp_in (nI j) 12 := vp_in_nI (by omega) (by omega)
      simp only [nI_clamp (show j < 2 ^ 31 by omega), forall_eq]
      exact ⟨hin, fun q3 => ⟨hin, hin, q2 q3⟩, q1⟩
    by_cases hB : c.1 1 = 1 ∨ ¬ c.2.1 1 j = 1
    · refine Or.inl ⟨-2, by decide, fun Post q => cls Post (fun _ => q) (fun q1 => ?_), fun u Post e q => t_noFind (w := w) (N := N) (by rw [e]; exact hg) (fun z => absurd (by rw [e]; exact hg.memR.mpr hM) z) (fun j' hj' e' => ?_)⟩
      · rcases hB with z | z
        · have := (h.2.2.2 z j (by omega)).1 hj
          rw [this] at q1
          exact absurd q1 (by decide)
        · exact absurd q1 z
      · have ej : j = j' := (nI_eq (by omega) (by omega)).mp e'
        subst ej
        refine ⟨fun _ => q, fun z => absurd ?_ z⟩
        unfold bFind
        rw [e, b2, h.1.1.2.2.2.2.2.2.2]
        exact hB
    · have hu : c.1 1 = 0 := h.1.1.2.2.2.2.2.2.1.resolve_right (fun z => hB (Or.inl z))
      have hs : c.2.1 1 j = 1 := Decidable.not_not.mp (fun z => hB (Or.inr z))
      have hr := find_rel h2 hj hu
      obtain ⟨-, -, hq, -⟩ := h.1.2.2.1 j (by omega)
      obtain ⟨q, hq1, hq2⟩ := hq hs
      refine Or.inr ⟨c.1 0 - c.2.1 2 j, findC c j, findF f2 j, w, N, ?_, hr, fun i hi => ?_, fun Post q => cls Post (fun z => absurd hs z) (fun _ => q), fun u Post e q => t_noFind (w := w) (N := N) (by rw [e]; exact hg) (fun z => absurd (by rw [e]; exact hg.memR.mpr hM) z) (fun j' hj' e' => ?_), fun u Post e q => t_doFind (by omega) (by rw [e, h2.1.1.2.2.2.1, ← h2.1.1.2.2.1, (h2.1.2.1 j hj).2.2.1]; exact q)⟩
      · rw [hc0, hq2, pk_sub hq1]
        exact nI_nn (by omega)
      · unfold findF
        exact out_setM (show j < 12 by omega) (show 1 < 13 by omega) hi
      · have ej : j = j' := (nI_eq (by omega) (by omega)).mp e'
        subst ej
        refine ⟨fun z => absurd ?_ hB, fun _ => q⟩
        unfold bFind at z
        rw [e, b2, h.1.1.2.2.2.2.2.2.2] at z
        exact z
  · refine Or.inl ⟨-1, by decide, fun Post q => ?_, fun u Post e q => t_noFind (w := w) (N := N) (by rw [e]; exact hg) (fun _ => q) (fun j hj e' => absurd (by rw [e']; exact isM_nI hj hN) hM)⟩
    show wp_Clb_findCard c p Post
    unfold wp_Clb_findCard
    exact k_exists hc4 hN (fun z => absurd z hM) (fun _ => ⟨fun _ => q, fun z => absurd rfl z⟩)
