/-! Lapses; the week as one change on both sides. -/
theorem k_lapsed {c : CS} {i : Nat} {wk : Int32} {Post : Int32 → CS → Prop} (hi : i < 12) (h : ∀ s : Int32, s = (if c.2.1 6 i = -9 then c.2.1 3 i else c.2.1 6 i) → (wk - s ≤ 4 → Post 0 c) ∧ (¬ wk - s ≤ 4 → Post 1 c)) : wp_Crd_hasLapsed c (nI i) wk Post := by
  have hin : vp_in (nI i) 12 := vp_in_nI hi (by omega)
  unfold wp_Crd_hasLapsed
  simp only [nI_clamp (show i < 2 ^ 31 by omega), forall_eq]
  have := h _ rfl
  refine ⟨hin, fun q => ⟨hin, ?_⟩, fun q => ⟨hin, ?_⟩⟩
  · rw [if_pos q] at this; exact this
  · rw [if_neg q] at this; exact this
theorem lap_loop {w N : Nat} : ∀ (n i t : Nat) (c : CS) (g : Nat → Int32), CRw c g w N → c.1 1 = 0 → i ≤ N → N - i < n → t ≤ i → ∃ (t' : Nat) (c' : CS) (g' : Nat → Int32), t' ≤ N ∧ CRw c' g' w N ∧ c'.1 1 = 0 ∧ (∀ o, 226 ≤ o → g' o = g o) ∧ (∀ (Post K : Int32 → CS → Prop), K (nI t') c' → wl_Clb_dropLapsed_4 Post K n (nI t) (nI i) c) ∧ ∀ (u : RS) (Post K : Int32 → RS → Prop), u.1 = g → K (nI t') (rR u g') → wl_Mod_doWeek_119 Post K n (nI t) (nI i) u := by
  intro n
  induction n with
  | zero => intro i t c g _ _ h1 h2; omega
  | succ n ih =>
    intro i t c g h hu h1 h2 ht
    have hN := h.1.1.2.1
    have hc4 : c.1 4 = nI N := h.1.1.2.2.2.2.1
    have hg1 : g 1 = nI N := h.1.1.2.2.2.2.2.1
    have hc0 : c.1 0 = nI w := h.1.1.2.2.1
    have hg0 : g 0 = nI w := h.1.1.2.2.2.1
    by_cases hi : i = N
    · subst hi
      refine ⟨t, c, g, ht, h, hu, fun _ _ => rfl, fun Post K q => ?_, fun u Post K e q => ?_⟩
      · unfold wl_Clb_dropLapsed_4
        rw [hc4]
        exact ⟨fun _ => q, fun z => absurd (Int32.le_refl _) z⟩
      · unfold wl_Mod_doWeek_119
        rw [c1, e, hg1]
        rw [← e] at q
        exact ⟨fun _ => q, fun z => absurd (Int32.le_refl _) z⟩
    · have hlt : i < N := by omega
      obtain ⟨b1, b2, b3, b4, b5, b6, b7, b8, b9, b10⟩ := h.1.2.1 i hlt
      have hin : vp_in (nI i) 12 := vp_in_nI (by omega) (by omega)
      have hng : ¬ nI N ≤ nI i := nI_ge hlt (by omega)
      have refl : ∀ (u : RS) (Post K : Int32 → RS → Prop), u.1 = g → (∀ s : Int32, s = (if c.2.1 6 i = -9 then c.2.1 3 i else c.2.1 6 i) → (c.2.1 9 i = -9 → wl_Mod_doWeek_119 Post K n (nI t) (nI (i + 1)) u) ∧ (¬ c.2.1 9 i = -9 → (nI w - s ≤ 4 → wl_Mod_doWeek_119 Post K n (nI t) (nI (i + 1)) u) ∧ (¬ nI w - s ≤ 4 → wp_Mod_drop u (nI i) (fun _ v => wl_Mod_doWeek_119 Post K n (nI (t + 1)) (nI (i + 1)) v)))) → wl_Mod_doWeek_119 Post K (n + 1) (nI t) (nI i) u := by
        intro u Post K e q
        unfold wl_Mod_doWeek_119
        simp only [ofc9 (show i < 12 by omega), ofc6 (show i < 12 by omega), ofc3 (show i < 12 by omega), c0, c1, c9, forall_eq, nI_1]
        have e9 : u.1 (70 + 13 * i + 9) = c.2.1 6 i := by rw [e]; exact b8
        have e6 : u.1 (70 + 13 * i + 6) = c.2.1 3 i := by rw [e]; exact b7
        have e3 : u.1 (70 + 13 * i + 3) = c.2.1 9 i := by rw [e]; exact b4
        have e0 : u.1 0 = nI w := by rw [e]; exact hg0
        have e1 : u.1 1 = nI N := by rw [e]; exact hg1
        rw [e9, e6, e3, e0, e1]
        have q' := q _ rfl
        refine ⟨fun z => absurd z hng, fun _ => ⟨ofi9 (by omega), fun z => ⟨ofi6 (by omega), ofi3 (by omega), ?_⟩, fun z => ⟨ofi9 (by omega), ofi3 (by omega), ?_⟩⟩⟩
        · rw [if_pos z] at q'
          exact ⟨q'.1, fun y => q'.2 y⟩
        · rw [if_neg z] at q'
          exact ⟨q'.1, fun y => q'.2 y⟩
      have clsl : ∀ (Post K : Int32 → CS → Prop), (pf_Ham_isKind (c.2.1 9 i) = 0 → wl_Clb_dropLapsed_4 Post K n (nI t) (nI (i + 1)) c) → (¬ pf_Ham_isKind (c.2.1 9 i) = 0 → ∀ s : Int32, s = (if c.2.1 6 i = -9 then c.2.1 3 i else c.2.1 6 i) → (nI w - s ≤ 4 → wl_Clb_dropLapsed_4 Post K n (nI t) (nI (i + 1)) c) ∧ (¬ nI w - s ≤ 4 → wp_Hmp_drop c (nI i) (c.2.1 9 i) (fun _ v => wl_Clb_dropLapsed_4 Post K n (nI (t + 1)) (nI (i + 1)) v))) → wl_Clb_dropLapsed_4 Post K (n + 1) (nI t) (nI i) c := by
        intro Post K q1 q2
        unfold wl_Clb_dropLapsed_4
        rw [hc4]
        simp only [nI_clamp (show i < 2 ^ 31 by omega), forall_eq, nI_1, hc0]
        refine ⟨fun z => absurd z hng, fun _ => ⟨hin, q1, fun z => ?_⟩⟩
        refine k_lapsed (by omega) (fun s es => ?_)
        have q3 := q2 z s es
        exact ⟨fun y => ⟨fun _ => q3.1 y, fun x => absurd rfl x⟩, fun y => ⟨fun x => absurd x (by decide), fun _ => q3.2 y⟩⟩
      by_cases hs : ¬ c.2.1 9 i = -9 ∧ ¬ nI w - (if c.2.1 6 i = -9 then c.2.1 3 i else c.2.1 6 i) ≤ 4
      · rcases ch_cases h.1 (show i < 12 by omega) with hc | ⟨k, hk, hc⟩
        · exact absurd hc hs.1
        · obtain ⟨x, d, gd, hx, hcp, hdf, hcl, hrf⟩ := drop_sim h.1 hlt hk hc
          have hud : d.1 1 = 0 := by rw [hdf.1]; exact hu
          obtain ⟨t', c', g', r0, r1, r2, r3, r4, r5⟩ := ih (i + 1) (t + 1) d gd ⟨hcp, hdf.pf.ca0 h.2.1, se_pf hdf.pf h.2.2 hu⟩ hud (by omega) (by omega) (by omega)
          refine ⟨t', c', g', r0, r1, r2, fun o ho => (r3 o ho).trans (hdf.2.2.2.2.2.1 o ho), fun Post K q => clsl Post K (fun z => ?_) (fun _ s es => ⟨fun z => ?_, fun _ => ?_⟩), fun u Post K e q => refl u Post K e (fun s es => ⟨fun z => absurd z hs.1, fun _ => ⟨fun z => ?_, fun _ => ?_⟩⟩)⟩
          · rw [hc] at z
            exact absurd z (hamK1 hk)
          · rw [es] at z
            exact absurd z hs.2
          · rw [hc]
            exact hcl _ (r4 Post K q)
          · rw [es] at z
            exact absurd z hs.2
          · exact hrf u _ e (r5 _ Post K rfl q)
      · obtain ⟨t', c', g', r0, r1, r2, r3, r4, r5⟩ := ih (i + 1) t c g h hu (by omega) (by omega) (by omega)
        refine ⟨t', c', g', r0, r1, r2, r3, fun Post K q => clsl Post K (fun z => r4 Post K q) (fun z s es => ⟨fun _ => r4 Post K q, fun z2 => ?_⟩), fun u Post K e q => refl u Post K e (fun s es => ⟨fun _ => r5 u Post K e q, fun z => ⟨fun _ => r5 u Post K e q, fun z2 => ?_⟩⟩)⟩
        · rw [es] at z2
          refine absurd ⟨fun y => ?_, z2⟩ hs
          rw [y] at z
          exact z hamK9
        · rw [es] at z2
          exact absurd ⟨z, z2⟩ hs
theorem lapF_rel {c : CS} {g : Nat → Int32} {w N : Nat} {x : Int32} (h : CRw c g w N) : CRw (cS c 3 (c.1 3 + x)) (setG g 9 (g 9 + x)) w N := by
  obtain ⟨⟨hG, hM, hI, hO, hQ⟩, ⟨⟨a1, a2, a3, a4, a5, a6, a7⟩, a8⟩, hE⟩ := h
  have hN := hG.2.1
  refine ⟨⟨CG_eq hG rfl rfl rfl rfl rfl rfl, fun m hm => CMm_eq (hM m hm) (fun _ _ _ _ => rfl) rfl (fun v hv _ => mb_setG (by omega)), fun m hm => CI_eq (hI m hm) (fun _ _ _ _ => rfl) rfl, fun m h1 h2 => CO_eq (hO m h1 h2) (fun _ _ _ => rfl) rfl, fun q hq => CQ_eq (hQ q hq) hN rfl rfl (fun _ _ => rfl) (fun _ _ => rfl) (fun v hv => kd_setG (by omega))⟩, ⟨⟨a1, a2, a3, a4, a5, ?_, fun m hm => by rw [mb_setG (by omega)]; exact a7 m hm⟩, a8⟩, hE⟩
  show c.1 3 + x = g 9 + x
  rw [a6]
theorem sim_week (c : CS) : OpSim (fun P => wp_Clb_passWeek c P) (fun u P => wp_Mod_noWeek u P) (fun u P => wp_Mod_doWeek u P) c := by
  intro f f2 w N h h2
  have hw := h.1.1.1
  have hc0 : c.1 0 = nI w := h.1.1.2.2.1
  have hf0 : f 0 = nI w := h.1.1.2.2.2.1
  have hst : f 2 = c.1 1 := h.1.1.2.2.2.2.2.2.2
  by_cases hu : c.1 1 = 0
  · have hn1 : ¬ f 2 = 1 := by rw [hst, hu]; decide
    by_cases hw60 : w < 60
    · obtain ⟨c1', g1, r1, r2, r3, r4, r5⟩ := rep_loop 13 0 _ _ (wk_rel h2 hw60 hu) hu (by omega) (by have := h.1.1.2.1; omega)
      obtain ⟨t, c2', g2, s0, s1, s2, s3, s4, s5⟩ := lap_loop 13 0 0 c1' g1 r1 r2 (by omega) (by have := h.1.1.2.1; omega) (by omega)
      have hN := h.1.1.2.1
      refine Or.inr ⟨nI t, cS c2' 3 (c2'.1 3 + nI t), setG g2 9 (g2 9 + nI t), w + 1, N, nI_nn (by omega), lapF_rel s1, fun i hi => ?_, fun Post q => ?_, fun u Post e q => t_noWeek (fun z => absurd (by rw [← e]; exact z) hn1) (fun _ z => ?_) (fun _ _ => q), fun u Post e q => ?_⟩
      · rw [out_setG (by omega) hi, s3 i hi, r3 i hi, out_setG (by omega) hi]
      · show wp_Clb_passWeek c Post
        unfold wp_Clb_passWeek
        simp only [forall_eq]
        refine ⟨fun _ => ⟨fun _ => ?_, fun z => ?_⟩, fun z => absurd hu z⟩
        · exact ⟨13, r4 _ _ ⟨13, s4 _ _ q⟩⟩
        · rw [hc0] at z
          exact absurd (nI_lt hw60 (by omega)) z
      · rw [e, hf0] at z
        have := (nI_eq (b := 60) (by omega) (by omega)).mp z
        omega
      · show wp_Mod_doWeek u Post
        unfold wp_Mod_doWeek
        simp only [c0, c9, forall_eq]
        refine ⟨13, r5 _ _ _ ?_ ⟨13, s5 _ _ _ rfl q⟩⟩
        rw [← e]
        rfl
    · have ew : w = 60 := by omega
      subst ew
      refine Or.inl ⟨-3, by decide, fun Post q => ?_, fun u Post e q => t_noWeek (fun z => absurd (by rw [← e]; exact z) hn1) (fun _ _ => q) (fun _ z => absurd (by rw [e, hf0]; rfl) z)⟩
      show wp_Clb_passWeek c Post
      unfold wp_Clb_passWeek
      refine ⟨fun _ => ⟨fun z => ?_, fun _ => q⟩, fun z => absurd hu z⟩
      rw [hc0] at z
      exact absurd z (by decide)
  · have hs : c.1 1 = 1 := h.1.1.2.2.2.2.2.2.1.resolve_left hu
    refine Or.inl ⟨-2, by decide, fun Post q => ?_, fun u Post e q => t_noWeek (fun _ => q) (fun z => absurd (by rw [e, hst]; exact hs) z) (fun z => absurd (by rw [e, hst]; exact hs) z)⟩
    show wp_Clb_passWeek c Post
    unfold wp_Clb_passWeek
    exact ⟨fun z => absurd z hu, fun _ => q⟩
