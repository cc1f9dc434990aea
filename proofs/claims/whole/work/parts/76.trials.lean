/-! Trials: settling and choosing with what is known of the outcome. -/
theorem settle_ex {c : CS} {f2 : Nat → Int32} {w N : Nat} (h2 : CRw c f2 w N) (hu : c.1 1 = 0) : ∃ (hh : Int32) (c' : CS) (g' : Nat → Int32), CRw c' g' w N ∧ (∀ i, 226 ≤ i → g' i = f2 i) ∧ (∀ m, m < N → mb g' m 12 = bon c N m) ∧ (∀ Post : Int32 → CS → Prop, Post hh c' → wp_Clb_settleAll c Post) ∧ ∀ (u : RS) (Post : Int32 → RS → Prop), u.1 = f2 → (∀ F, Post hh (rR (rF u F) g')) → wp_Mod_doSettle u Post := by
  have hN := h2.1.1.2.1
  have hw := h2.1.1.1
  obtain ⟨b1c, p1, p2, p3, p4⟩ := bonus_loop (c0 := c) 13 0 c h2.1 (CAg_cong h2.2.1.1 rfl (fun m _ => by show (0 : Int32) = if m < 0 then _ else 0; rw [if_neg (by omega)])) rfl rfl rfl (by omega) (by omega)
  obtain ⟨hh, c2', g2, q1, q2, q3, q4, q5, q6, q7, q8⟩ := kinds_loop 5 0 (cS b1c 6 0) (layF f2 (bon c N) N) 0 (CP_lay (CP_pool p1)) (CAg_lay p2) (by omega) (by omega)
  have hcl : CLr (bon c N) hh c2' g2 w N N 0 := by
    have bs := brs_bsum (bon c N) N 0
    have bs : brs (bon c N) N 0 = bsum (bon c N) N := by
      have e : bsum (bon c N) 0 + brs (bon c N) N 0 = bsum (bon c N) (0 + N) := bs
      rw [Nat.zero_add] at e
      rw [← e]
      exact (Int32.zero_add _).symm
    refine ⟨q1.1, fun m hm => CMm_eq (q1.2.1 m hm) (fun a _ _ _ => ?_) rfl (fun _ _ _ => rfl), fun m hm => CI_eq (q1.2.2.1 m hm) (fun a _ _ _ => ?_) rfl, q1.2.2.2.1, fun m hm => by omega, CAg_cong q2 bs.symm (fun m hm => by rw [if_pos hm, if_pos (Nat.zero_le m)]), fun m hm => by rw [q6.1, mb_layF (by omega), if_pos ⟨rfl, hm⟩], fun k hk => ⟨(q1.2.2.2.2 k hk).1, (q1.2.2.2.2 k hk).2.1, (q1.2.2.2.2 k hk).2.2.1⟩⟩
    all_goals
      by_cases y9 : a = 9
      · subst y9
        rw [fg_9, if_neg (by omega)]
      · by_cases y10 : a = 10
        · subst y10
          rw [fg_10, if_neg (by omega)]
        · rw [fg_o y9 y10]
  obtain ⟨c3', g3, r1, r2, r3, r4, r5, r6⟩ := close_loop N 0 c2' g2 hcl (by omega)
  have h80 : f2 8 = 0 := by
    have e1 : c.1 2 = f2 8 + 0 := h2.2.1.1.2.2.2.2.1
    rw [h2.2.2.1 hu, Int32.add_zero] at e1
    exact e1.symm
  have g80 : g3 8 = 0 := by rw [r3, q6.2, gl_layF (by omega), h80]
  have ex : c3'.1 2 = hh := by
    have := r1.2.2.2.2.2.1.2.2.2.2.1
    rw [g80, Int32.zero_add] at this
    exact this
  have h12 : ∀ m, m < N → mb g3 m 12 = bon c N m := r1.2.2.2.2.2.2.1
  refine ⟨hh, endC c3', endF g3 hh, end_rel r1 (by rw [r2, q4]; rfl), fun i hi => ?_, fun m hm => by rw [mb_endF]; exact h12 m hm, fun Post q => ?_, fun u Post e q => ?_⟩
  · unfold endF
    rw [out_setG (by omega) hi, out_setG (by omega) hi, out_setG (by omega) hi, out_wtF hi, r4 i hi, q5 i hi, out_layF hN hi]
  · show wp_Clb_settleAll c Post
    unfold wp_Clb_settleAll
    refine ⟨fun _ => ⟨13, p4 _ _ ?_⟩, fun z => absurd hu z⟩
    intro v ev
    rw [ev]
    refine ⟨5, q7 _ _ ⟨N + 1, r5 _ _ ?_⟩⟩
    unfold wp_Hmp_forgetChoices
    refine t_fill ?_
    intro v2 ev2
    rw [ev2]
    refine t_fill ?_
    intro v4 ev4
    rw [ev4]
    intro v5 ev5
    rw [ev5, ← ex] at *
    exact q
  · show wp_Mod_doSettle u Post
    unfold wp_Mod_doSettle
    refine t_bonuses (c := c) (w := w) (N := N) (by rw [e]; exact h2.1.1) (by rw [e]; exact h2.1.2.1) h2.1.2.2.1 (by rw [e]; exact h2.2.1.2.symm) ⟨5, q8 _ _ _ (by rw [e]; rfl) (fun F => ⟨N + 1, r6 _ _ _ rfl ⟨5, set_end _ Post ?_⟩⟩)⟩
    exact q F
theorem choose_r {c : CS} {f2 : Nat → Int32} {w N j i : Nat} (h2 : CRw c f2 w N) (hj : j < N) (hi : i < 4) (hu : c.1 1 = 0) (hne : ¬ c.2.1 9 j = nI i) : ∃ (x : Int32) (c' : CS) (g' : Nat → Int32), CRw c' g' w N ∧ (∀ o, 226 ≤ o → g' o = f2 o) ∧ c'.1 1 = 0 ∧ (∀ Post : Int32 → CS → Prop, Post x c' → wp_Clb_chooseKind c (nI j) (nI i) Post) ∧ ∀ (u : RS) (Post : Int32 → RS → Prop), u.1 = f2 → Post x (rR u g') → wp_Mod_doChoose u (nI j) (nI i) Post := by
  have hN : N ≤ 12 := h2.1.1.2.1
  have hc4 : c.1 4 = nI N := h2.1.1.2.2.2.2.1
  have hM : isM N (nI j) := isM_nI hj hN
  have hin : vp_in (nI j) 12 := vp_in_nI (by omega) (by omega)
  rcases ch_cases h2.1 (show j < 12 by omega) with hc | ⟨k, hk, hc⟩
  · obtain ⟨x, c', g', hx, hcp, hpf, hcl, hrf⟩ := put_sim h2.1 hj hi hc
    refine ⟨x, c', g', ⟨hcp, hpf.ca0 h2.2.1, se_pf hpf h2.2.2 hu⟩, hpf.2.2.1, by rw [hpf.1]; exact hu, fun Post q => ?_, fun u Post e q => ?_⟩
    · unfold wp_Clb_chooseKind
      refine k_exists hc4 hN (fun _ => ⟨fun q => absurd q (by decide), fun _ => ?_⟩) (fun q => absurd hM q)
      simp only [nI_clamp (show j < 2 ^ 31 by omega), forall_eq]
      refine ⟨fun z => absurd z (hamK1 hi), fun _ => ⟨hin, fun _ => ⟨fun z => absurd z hne, fun _ => ⟨fun _ => hcl _ q, fun z => absurd ?_ z⟩⟩, fun z => absurd hu z⟩⟩
      rw [hc]
      exact hamK9
    · rw [doChoose_eq, ofc3 (by omega)]
      have e3 : u.1 (70 + 13 * j + 3) = -9 := by
        rw [e]
        exact ((h2.1.2.1 j hj).2.2.2.1).trans hc
      exact ⟨ofi3 (by omega), fun _ => hrf u _ e q, fun z => absurd e3 z⟩
  · obtain ⟨x1, c1, g1, hx1, hcp1, hdf1, hcl1, hrf1⟩ := drop_sim h2.1 hj hk hc
    have hc1 : c1.2.1 9 j = -9 := by
      rw [hdf1.2.2.2.1]
      exact if_pos rfl
    obtain ⟨x, c', g', hx, hcp, hpf, hcl, hrf⟩ := put_sim hcp1 hj hi hc1
    have hu1 : c1.1 1 = 0 := by rw [hdf1.1]; exact hu
    refine ⟨x, c', g', ⟨hcp, hpf.ca0 (hdf1.pf.ca0 h2.2.1), se_pf hpf (se_pf hdf1.pf h2.2.2 hu) hu1⟩, fun o ho => (hpf.2.2.1 o ho).trans (hdf1.2.2.2.2.2.1 o ho), by rw [hpf.1]; exact hu1, fun Post q => ?_, fun u Post e q => ?_⟩
    · unfold wp_Clb_chooseKind
      refine k_exists hc4 hN (fun _ => ⟨fun q => absurd q (by decide), fun _ => ?_⟩) (fun q => absurd hM q)
      simp only [nI_clamp (show j < 2 ^ 31 by omega), forall_eq]
      refine ⟨fun z => absurd z (hamK1 hi), fun _ => ⟨hin, fun _ => ⟨fun z => absurd z hne, fun _ => ⟨fun z => absurd z ?_, fun _ => ?_⟩⟩, fun z => absurd hu z⟩⟩
      · rw [hc]
        exact hamK1 hk
      · rw [hc]
        exact hcl1 _ (hcl _ q)
    · rw [doChoose_eq, ofc3 (by omega)]
      have e3 : u.1 (70 + 13 * j + 3) = nI k := by
        rw [e]
        exact ((h2.1.2.1 j hj).2.2.2.1).trans hc
      refine ⟨ofi3 (by omega), fun z => absurd (e3.symm.trans z) (fun y => neg9_ne hk y.symm), fun _ => hrf1 u _ e ?_⟩
      exact hrf _ _ rfl q
theorem choose_same {c : CS} {f2 : Nat → Int32} {w N j i : Nat} {Post : Int32 → CS → Prop} (h2 : CRw c f2 w N) (hj : j < N) (hi : i < 4) (hu : c.1 1 = 0) (he : c.2.1 9 j = nI i) (q : Post (-2) c) : wp_Clb_chooseKind c (nI j) (nI i) Post := by
  have hN : N ≤ 12 := h2.1.1.2.1
  have hc4 : c.1 4 = nI N := h2.1.1.2.2.2.2.1
  have hM : isM N (nI j) := isM_nI hj hN
  have hin : vp_in (nI j) 12 := vp_in_nI (by omega) (by omega)
  unfold wp_Clb_chooseKind
  refine k_exists hc4 hN (fun _ => ⟨fun q => absurd q (by decide), fun _ => ?_⟩) (fun q => absurd hM q)
  simp only [nI_clamp (show j < 2 ^ 31 by omega), forall_eq]
  exact ⟨fun z => absurd z (hamK1 hi), fun _ => ⟨hin, fun _ => ⟨fun _ => q, fun z2 => absurd he z2⟩, fun z => absurd hu z⟩⟩
/-- the reference's row kept aside and put back -/
theorem aside_row {f : Nat → Int32} {i : Nat} (hi : i < 226) : cpF f 0 4080 226 i = f i := by
  unfold cpF
  rw [if_neg (by omega)]
def Same (r r' : RS) : Prop := (∀ i, i < 4080 → r'.1 i = r.1 i) ∧ r'.2.1 = r.2.1 ∧ r'.2.2.2 = r.2.2.2 ∧ ∀ i, 4306 ≤ i → r'.1 i = r.1 i
theorem back_copy {r : RS} {g' F : Nat → Int32} {Post : RS → Prop} (hg : ∀ i, 226 ≤ i → g' i = cpF r.1 0 4080 226 i) (h : ∀ r', Same r r' → Post r') : wp_Mod_copy (rR (rF (rR r (cpF r.1 0 4080 226)) F) g') 4080 0 226 Post := by
  refine t_copy (a := 4080) (b := 0) (n := 226) (by omega) (by omega) (by omega) (h _ ⟨fun i hi => ?_, rfl, rfl, fun i hi => ?_⟩)
  rotate_left
  · show cpF g' 4080 0 226 i = r.1 i
    unfold cpF
    rw [if_neg (by omega), hg _ (by omega)]
    unfold cpF
    rw [if_neg (by omega)]
  show cpF g' 4080 0 226 i = r.1 i
  unfold cpF
  by_cases z : i < 226
  · rw [if_pos (by omega), hg _ (by omega)]
    unfold cpF
    rw [if_pos (by omega), show 0 + (4080 + (i - 0) - 4080) = i by omega]
  · rw [if_neg (by omega), hg _ (by omega)]
    unfold cpF
    rw [if_neg (by omega)]
theorem TRx_back {z : ZZ} {r r' : RS} {t : CS} (h : TRx z r) (e : Same r r') : TRx (z.1, z.2.1, z.2.2.1, z.2.2.2.1, z.2.2.2.2.1, z.2.2.2.2.2.1, z.2.2.2.2.2.2.1, z.2.2.2.2.2.2.2.1, t) r' := by
  obtain ⟨e1, e2, e3, -⟩ := e
  obtain ⟨h1, ⟨p, n, hp, hn, a0, a1, a2, a3⟩, ⟨l, b1, b2, b3, b4⟩⟩ := h
  refine ⟨SR_row h1 (fun i hi => e1 i (by omega)), ⟨p, n, hp, hn, a0, a1, by rw [e3]; exact a2, fun j hj => SR_row (a3 j hj) (fun i hi => e1 _ (by omega))⟩, ⟨l, b1, b2, by rw [e3]; exact b3, fun i hi => by rw [e2]; exact b4 i hi⟩⟩
theorem Same.refl (r : RS) : Same r r := ⟨fun _ _ => rfl, rfl, rfl, fun _ _ => rfl⟩
theorem Same.trans {r r' r'' : RS} (h : Same r r') (h' : Same r' r'') : Same r r'' := ⟨fun i hi => (h'.1 i hi).trans (h.1 i hi), h'.2.1.trans h.2.1, h'.2.2.1.trans h.2.2.1, fun i hi => (h'.2.2.2 i hi).trans (h.2.2.2 i hi)⟩
theorem Same.aside {r r' : RS} (h : Same r r') : cpF r'.1 0 4080 226 = cpF r.1 0 4080 226 := by
  funext i
  unfold cpF
  by_cases z : 4080 ≤ i ∧ i < 4080 + 226
  · rw [if_pos z, if_pos z]
    exact h.1 _ (by omega)
  · rw [if_neg z, if_neg z]
    rcases Nat.lt_or_ge i 4080 with y | y
    · exact h.1 i y
    · exact h.2.2.2 i (by omega)
