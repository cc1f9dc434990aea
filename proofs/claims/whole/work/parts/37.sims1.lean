/-! One change on both sides: refused alike, or made alike. -/
def OpSim (cw : (Int32 → CS → Prop) → Prop) (nw : RS → (Int32 → RS → Prop) → Prop) (dw : RS → (Int32 → RS → Prop) → Prop) (c : CS) : Prop :=
  ∀ f f2 w N, CRw c f w N → CRw c f2 w N →
    (∃ e : Int32, e < 0 ∧ (∀ Post : Int32 → CS → Prop, Post e c → cw Post) ∧ ∀ (u : RS) (Post : Int32 → RS → Prop), u.1 = f → Post e u → nw u Post) ∨
    (∃ (x : Int32) (c' : CS) (g' : Nat → Int32) (w' N' : Nat), 0 ≤ x ∧ CRw c' g' w' N' ∧ (∀ i, 226 ≤ i → g' i = f2 i) ∧ (∀ Post : Int32 → CS → Prop, Post x c' → cw Post) ∧ (∀ (u : RS) (Post : Int32 → RS → Prop), u.1 = f → Post 0 u → nw u Post) ∧ ∀ (u : RS) (Post : Int32 → RS → Prop), u.1 = f2 → Post x (rR u g') → dw u Post)
theorem CRw.rg {c : CS} {f : Nat → Int32} {w N : Nat} (h : CRw c f w N) : RG f w N := h.1.1.rg
/-- small numbers -/
theorem nI_nn {n : Nat} (h : n < 2 ^ 31) : (0 : Int32) ≤ nI n := nI_pos' h
theorem lit_of {k : Int32} {n : Nat} (hn : n < 2 ^ 30) (h0 : 0 ≤ k.toInt) (h : k.toInt ≤ n) : ∃ x : Nat, x ≤ n ∧ k = nI x := by
  obtain ⟨j, hj, e⟩ := vp_in_of (vp_in_iff.mpr ⟨h0, (by omega : k.toInt < ((n + 1 : Nat) : Int))⟩) (by omega)
  exact ⟨j, by omega, e⟩
theorem sim_stick (c : CS) (p k : Int32) : OpSim (fun P => wp_Clb_stickStamps c p k P) (fun u P => wp_Mod_noStick u p k P) (fun u P => wp_Mod_doStick u p k P) c := by
  intro f f2 w N h h2
  have hg := h.rg
  have hN := hg.2.1
  have hw := hg.1
  have hc4 : c.1 4 = nI N := h.1.1.2.2.2.2.1
  have hc0 : c.1 0 = nI w := h.1.1.2.2.1
  by_cases hA : isM N p ∧ 1 ≤ k.toInt ∧ k.toInt ≤ 5
  · obtain ⟨hM, hk⟩ := hA
    obtain ⟨j, hj, rfl⟩ := isM_of hM hN
    obtain ⟨b1, b2, b3, b4, b5, b6, b7, b8, b9, b10⟩ := h.1.2.1 j hj
    have hgd : goodR f j (f 0).toNatClampNeg = gbit (c.2.2 j) w := by rw [wk_eq h.1.1]; exact (b10 w hw).symm
    have cls : ∀ Post : Int32 → CS → Prop, ((¬ c.2.1 1 j = 0 ∨ gbit (c.2.2 j) w = true) → Post (-2) c) → (c.2.1 1 j = 0 → ¬ gbit (c.2.2 j) w = true → Post ((stickC c j k w).2.1 0 j) (stickC c j k w)) → wp_Clb_stickStamps c (nI j) k Post := by
      intro Post q1 q2
      unfold wp_Clb_stickStamps
      refine k_exists hc4 hN (fun _ => ⟨fun q => absurd q (by decide), fun _ => ?_⟩) (fun q => absurd hM q)
      refine ⟨fun q => absurd (Int32.lt_iff_toInt_lt.mp q) (by show ¬ k.toInt < 1; omega), fun _ => ⟨fun _ => ?_, fun q => absurd (Int32.le_iff_toInt_le.mpr (show k.toInt ≤ (5 : Int32).toInt from hk.2)) q⟩⟩
      refine k_inHand (by omega) (fun q3 => ⟨fun q => absurd q (by decide), fun _ => ?_⟩) (fun q3 => ⟨fun _ => q1 (Or.inl q3), fun q => absurd rfl q⟩)
      rw [hc0]
      refine k_goodIn (by omega) (by omega) (fun q4 => ⟨fun q => absurd q (by decide), fun _ => q1 (Or.inr q4)⟩) (fun q4 => ⟨fun _ => ?_, fun q => absurd rfl q⟩)
      have q5 := q2 q3 q4
      unfold wp_Crd_makeGood wp_Acc_takeIn
      have hin : vp_in (nI j) 12 := vp_in_nI (by omega) (by omega)
      simp only [nI_clamp (show j < 2 ^ 31 by omega), forall_eq, hc0]
      exact ⟨hin, hin, hin, hin, hin, hin, q5⟩
    by_cases hB : c.1 1 = 1 ∨ ¬ c.2.1 1 j = 0 ∨ gbit (c.2.2 j) w = true
    · refine Or.inl ⟨-2, by decide, fun Post q => cls Post (fun _ => q) (fun q1 q2 => ?_), fun u Post e q => t_noStick (w := w) (N := N) (by rw [e]; exact hg) (fun z => absurd ⟨(by rw [e]; exact hg.memR.mpr hM), hk⟩ z) (fun j' hj' e' _ _ => ?_)⟩
      · rcases hB with z | z | z
        · have := (h.2.2.2 z j (by omega)).1 hj
          rw [this] at q1
          exact absurd q1 (by decide)
        · exact absurd q1 z
        · exact absurd z q2
      · have ej : j = j' := (nI_eq (by omega) (by omega)).mp e'
        subst ej
        refine ⟨fun _ => q, fun z => absurd ?_ z⟩
        unfold bStick
        rw [e, hgd, b2, h.1.1.2.2.2.2.2.2.2]
        exact hB
    · have hu : c.1 1 = 0 := h.1.1.2.2.2.2.2.2.1.resolve_right (fun z => hB (Or.inl z))
      have hs : c.2.1 1 j = 0 := Decidable.not_not.mp (fun z => hB (Or.inr (Or.inl z)))
      have hb : ¬ gbit (c.2.2 j) w = true := fun z => hB (Or.inr (Or.inr z))
      have hb' : gbit (c.2.2 j) w = false := by simpa using hb
      have hr := stick_rel h2 hj hk hb' hs hu
      obtain ⟨⟨s, s1, s2⟩, -⟩ := hr.1.2.2.1 j (by omega)
      have hx : mb f2 j 0 + k = (stickC c j k w).2.1 0 j := by
        have e1 := (hr.1.2.1 j hj).1
        rw [mb_stickF (by omega) (by omega), if_pos rfl, if_neg (by omega), if_neg (by omega), if_pos rfl] at e1
        exact e1
      refine Or.inr ⟨(stickC c j k w).2.1 0 j, stickC c j k w, stickF f2 j k w, w, N, ?_, hr, fun i hi => ?_, fun Post q => cls Post (fun z => absurd z (by rintro (z | z); exact z hs; exact hb z)) (fun _ _ => q), fun u Post e q => t_noStick (w := w) (N := N) (by rw [e]; exact hg) (fun z => absurd ⟨(by rw [e]; exact hg.memR.mpr hM), hk⟩ z) (fun j' hj' e' _ _ => ?_), fun u Post e q => ?_⟩
      · rw [s1]
        have : (if gbit ((stickC c j k w).2.2 j) w = true then 5 else 0) ≤ 5 := by split <;> omega
        exact nI_nn (by omega)
      · unfold stickF
        simp only [out_setG (show 5 < 10 by omega) hi, out_setG (show 3 < 10 by omega) hi, out_setM (show j < 12 by omega) (show 9 < 13 by omega) hi, out_setM (show j < 12 by omega) (show 7 + w / 31 < 13 by omega) hi, out_setM (show j < 12 by omega) (show 0 < 13 by omega) hi]
      · have ej : j = j' := (nI_eq (by omega) (by omega)).mp e'
        subst ej
        refine ⟨fun z => absurd ?_ hB, fun _ => q⟩
        unfold bStick at z
        rw [e, hgd, b2, h.1.1.2.2.2.2.2.2.2] at z
        exact z
      · refine t_doStick (w := w) (by omega) hw (by rw [e]; exact h2.1.1.2.2.2.1) ?_
        rw [e, hx]
        exact q
  · refine Or.inl ⟨-1, by decide, fun Post q => ?_, fun u Post e q => t_noStick (w := w) (N := N) (by rw [e]; exact hg) (fun _ => q) (fun j hj e' k1 k2 => absurd ⟨(by rw [e']; exact isM_nI hj hN), k1, k2⟩ hA)⟩
    show wp_Clb_stickStamps c p k Post
    unfold wp_Clb_stickStamps
    refine k_exists hc4 hN (fun hM => ⟨fun q => absurd q (by decide), fun _ => ?_⟩) (fun _ => ⟨fun _ => q, fun z => absurd rfl z⟩)
    refine ⟨fun _ => q, fun q1 => ⟨fun q2 => absurd ⟨hM, ?_, ?_⟩ hA, fun _ => q⟩⟩
    · have : ¬ k.toInt < 1 := fun z => q1 (Int32.lt_iff_toInt_lt.mpr z)
      omega
    · exact Int32.le_iff_toInt_le.mp q2
