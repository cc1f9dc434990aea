/-! Looking: the best kind. -/
def zt (z : ZZ) (t : CS) : ZZ := (z.1, z.2.1, z.2.2.1, z.2.2.2.1, z.2.2.2.2.1, z.2.2.2.2.2.1, z.2.2.2.2.2.2.1, z.2.2.2.2.2.2.2.1, t)
theorem get_sim {z : ZZ} {r : RS} {w N j k : Nat} (hc : CRw z.1 r.1 w N) (hj : j < N) (hk : k < 4) (hu : z.1.1 1 = 0) (t0 : CS) : ∃ (e : Int32) (t : CS), (e = 0 ∨ e = 1) ∧ (∀ Post : Int32 → ZZ → Prop, Post e (zt z t) → wp_Ham_wouldGet (zt z t0) (nI j) (nI k) Post) ∧ ∀ r', Same r r' → ∀ Post : Int32 → RS → Prop, (∀ r'', Same r r'' → Post e r'') → wp_Mod_gets r' (nI j) (nI k) Post := by
  have hN := hc.1.1.2.1
  have hj12 : j < 12 := by omega
  have hin : vp_in (nI j) 12 := vp_in_nI hj12 (by omega)
  have cl : (nI j).toNatClampNeg = j := nI_clamp (by omega)
  have hc1 : CRw z.1 (cpF r.1 0 4080 226) w N := CRw_row hc (fun i hi => aside_row hi)
  obtain ⟨a', ea, ca⟩ := x_copyC (a := t0) (b := z.1) (Or.inl hu)
  have hua : a'.1 1 = 0 := by
    rw [ea.1 1 (by omega)]
    exact hu
  have ha1 := CRw_eqC hc1 ea
  have h9 : a'.2.1 9 j = z.1.2.1 9 j := ea.2.1 9 j (by omega) hj12 (by omega) (by omega)
  -- what the settling gives, for a row
  have out : ∀ (c1 : CS) (g1 : Nat → Int32), CRw c1 g1 w N → c1.1 1 = 0 → (∀ i, 226 ≤ i → g1 i = cpF r.1 0 4080 226 i) → (∀ Post : Int32 → CS → Prop, (∀ x, Post x c1) → wp_Clb_chooseKind a' (nI j) (nI k) Post) → ((z.1.2.1 9 j = nI k ∧ g1 = cpF r.1 0 4080 226) ∨ (¬ z.1.2.1 9 j = nI k ∧ ∃ x : Int32, ∀ (u : RS) (Post : Int32 → RS → Prop), u.1 = cpF r.1 0 4080 226 → Post x (rR u g1) → wp_Mod_doChoose u (nI j) (nI k) Post)) → ∃ (e : Int32) (t : CS), (e = 0 ∨ e = 1) ∧ (∀ Post : Int32 → ZZ → Prop, Post e (zt z t) → wp_Ham_wouldGet (zt z t0) (nI j) (nI k) Post) ∧ ∀ r', Same r r' → ∀ Post : Int32 → RS → Prop, (∀ r'', Same r r'' → Post e r'') → wp_Mod_gets r' (nI j) (nI k) Post := by
    intro c1 g1 x1 x2 x3 x4 x5
    obtain ⟨hh, c', g', s1, s2, s3, s4, s5⟩ := settle_ex x1 x2
    have k11 : mb g' j 11 = c'.2.1 11 j := (s1.1.2.1 j hj).2.2.2.2.2.2.2.2.1
    have hg : ∀ i, 226 ≤ i → g' i = cpF r.1 0 4080 226 i := fun i hi => (s2 i hi).trans (x3 i hi)
    refine ⟨if c'.2.1 11 j = nI k then 1 else 0, c', ?_, fun Post q => ?_, fun r' hs Post q => ?_⟩
    · by_cases y : c'.2.1 11 j = nI k
      · rw [if_pos y]; exact Or.inr rfl
      · rw [if_neg y]; exact Or.inl rfl
    · unfold wp_Ham_wouldGet
      refine ca _ (x4 _ (fun x => s4 _ ?_))
      rw [cl]
      refine ⟨hin, fun y => ?_, fun y => ?_⟩
      · rw [if_pos y] at q; exact q
      · rw [if_neg y] at q; exact q
    · unfold wp_Mod_gets
      refine t_copy (a := 0) (b := 4080) (n := 226) (by omega) (by omega) (by omega) ?_
      rw [ofc3 hj12, ofc11 hj12]
      have e3 : (rR r' (cpF r'.1 0 4080 226)).1 (70 + 13 * j + 3) = z.1.2.1 9 j := by
        show cpF r'.1 0 4080 226 (70 + 13 * j + 3) = _
        rw [hs.aside]
        exact (hc1.1.2.1 j hj).2.2.2.1
      rw [e3]
      have hg' : ∀ i, 226 ≤ i → g' i = cpF r'.1 0 4080 226 i := fun i hi => by rw [hs.aside]; exact hg i hi
      have en1 : ∀ F, mb g' j 11 = nI k → wp_Mod_copy (rR (rF (rR r' (cpF r'.1 0 4080 226)) F) g') 4080 0 226 (fun u => Post 1 u) := fun F y => back_copy hg' (fun r'' z => by
        rw [k11] at y
        rw [if_pos y] at q
        exact q _ (hs.trans z))
      have en0 : ∀ F, ¬ mb g' j 11 = nI k → wp_Mod_copy (rR (rF (rR r' (cpF r'.1 0 4080 226)) F) g') 4080 0 226 (fun u => Post 0 u) := fun F y => back_copy hg' (fun r'' z => by
        rw [k11] at y
        rw [if_neg y] at q
        exact q _ (hs.trans z))
      refine ⟨ofi3 hj12, fun y => ?_, fun y => ?_⟩
      · have y5 : g1 = cpF r.1 0 4080 226 := by
          rcases x5 with ⟨_, y5⟩ | ⟨y5, _⟩
          · exact y5
          · exact absurd y y5
        refine s5 _ _ (show cpF r'.1 0 4080 226 = g1 by rw [y5]; exact hs.aside) (fun F => ⟨ofi11 hj12, fun y1 => en1 F y1, fun y1 => en0 F y1⟩)
      · rcases x5 with ⟨y5, _⟩ | ⟨_, x, y5⟩
        · exact absurd y5 y
        · refine y5 _ _ hs.aside ?_
          exact s5 _ _ rfl (fun F => ⟨ofi11 hj12, fun y1 => en1 F y1, fun y1 => en0 F y1⟩)
  by_cases hsame : z.1.2.1 9 j = nI k
  · exact out a' _ ha1 hua (fun _ _ => rfl) (fun Post q => choose_same ha1 hj hk hua (h9.trans hsame) (q _)) (Or.inl ⟨hsame, rfl⟩)
  · obtain ⟨x, c1, g1, s1, s2, s3, s4, s5⟩ := choose_r ha1 hj hk hua (fun y => hsame (h9.symm.trans y))
    exact out c1 g1 s1 s3 s2 (fun Post q => s4 _ (q _)) (Or.inr ⟨hsame, x, s5⟩)
theorem best_loop {z : ZZ} {r : RS} {w N j : Nat} (hc : CRw z.1 r.1 w N) (hj : j < N) (hu : z.1.1 1 = 0) : ∀ (n i : Nat) (b : Int32) (t0 : CS), i ≤ 4 → 4 - i < n → (b = -9 ∨ ∃ kb, kb < 4 ∧ b = nI kb) → ∃ (e : Int32) (t : CS), (∀ (Post K' : Int32 → ZZ → Prop), K' e (zt z t) → wl_Ham_bestKind_37 Post K' n (nI j) b (nI i) (zt z t0)) ∧ ∀ r', Same r r' → ∀ (Post K' : Int32 → RS → Prop), (∀ r'', Same r r'' → K' e r'') → wl_Mod_bestKind_25 Post K' n (nI j) b (nI i) r' := by
  intro n
  induction n with
  | zero => intro i b t0 h1 h2; omega
  | succ n ih =>
    intro i b t0 h1 h2 hb
    by_cases hi4 : i = 4
    · subst hi4
      refine ⟨b, t0, fun Post K' q => ?_, fun r' hs Post K' q => ?_⟩
      · unfold wl_Ham_bestKind_37
        exact ⟨fun _ => q, fun y => absurd (Int32.le_refl _) y⟩
      · unfold wl_Mod_bestKind_25
        exact ⟨fun _ => q _ hs, fun y => absurd (Int32.le_refl _) y⟩
    · have hi : i < 4 := by omega
      have ni : ¬ (4 : Int32) ≤ nI i := nI_ge (a := i) (b := 4) (by omega) (by omega)
      have clk : ∀ q, q < 4 → (nI q).toNatClampNeg = q := fun q hq => nI_clamp (by omega)
      have vk : ∀ q, q < 4 → vp_in (nI q) 4 := fun q hq => vp_in_nI hq (by omega)
      have pr : ∀ q r', q < 4 → Same r r' → r'.1 (pf_Mod_ofKind (nI q) 0).toNatClampNeg = z.1.2.1 7 q := by
        intro q r' hq hs
        rw [show (0 : Int32) = nI 0 from rfl, ok_cl hq (by omega), hs.1 _ (by omega)]
        exact ((hc.1.2.2.2.2 q hq).1).symm
      have vi : ∀ q, q < 4 → vp_in (pf_Mod_ofKind (nI q) 0) 4306 := fun q hq => by
        rw [show (0 : Int32) = nI 0 from rfl]
        exact ok_in hq (by omega)
      obtain ⟨e0, t1, he, g1, g2⟩ := get_sim hc hj hi hu t0
      rcases hb with hb | ⟨kb, hkb, hb⟩
      · -- none yet
        rcases he with he | he
        · obtain ⟨e, t, q1, q2⟩ := ih (i + 1) b t1 (by omega) (by omega) (Or.inl hb)
          refine ⟨e, t, fun Post K' q => ?_, fun r' hs Post K' q => ?_⟩
          · unfold wl_Ham_bestKind_37
            refine ⟨fun y => absurd y ni, fun _ => ⟨fun _ => g1 _ ⟨fun _ => ?_, fun y => absurd he y⟩, fun y => absurd hb y⟩⟩
            intro x ex
            rw [ex, nI_1]
            exact q1 Post K' q
          · unfold wl_Mod_bestKind_25
            refine ⟨fun y => absurd y ni, fun _ => g2 _ hs _ (fun r'' hs' => ⟨fun _ => ?_, fun y => absurd he y⟩)⟩
            intro x ex
            rw [ex, nI_1]
            exact q2 _ hs' Post K' q
        · obtain ⟨e, t, q1, q2⟩ := ih (i + 1) (nI i) t1 (by omega) (by omega) (Or.inr ⟨i, hi, rfl⟩)
          have ne : ¬ e0 = 0 := by rw [he]; decide
          refine ⟨e, t, fun Post K' q => ?_, fun r' hs Post K' q => ?_⟩
          · unfold wl_Ham_bestKind_37
            refine ⟨fun y => absurd y ni, fun _ => ⟨fun _ => g1 _ ⟨fun y => absurd y ne, fun _ => ?_⟩, fun y => absurd hb y⟩⟩
            intro x ex
            rw [ex, nI_1]
            exact q1 Post K' q
          · unfold wl_Mod_bestKind_25
            refine ⟨fun y => absurd y ni, fun _ => g2 _ hs _ (fun r'' hs' => ⟨fun y => absurd y ne, fun _ => ⟨fun _ => ?_, fun y => absurd hb y⟩⟩)⟩
            intro x ex
            rw [ex, nI_1]
            exact q2 _ hs' Post K' q
      · have nb : ¬ b = -9 := by
          rw [hb]
          exact fun y => neg9_ne hkb y.symm
        subst hb
        by_cases hp : z.1.2.1 7 i ≤ z.1.2.1 7 kb
        · obtain ⟨e, t, q1, q2⟩ := ih (i + 1) (nI kb) t0 (by omega) (by omega) (Or.inr ⟨kb, hkb, rfl⟩)
          refine ⟨e, t, fun Post K' q => ?_, fun r' hs Post K' q => ?_⟩
          · unfold wl_Ham_bestKind_37
            rw [clk i hi, clk kb hkb]
            refine ⟨fun y => absurd y ni, fun _ => ⟨fun y => absurd y nb, fun _ => ⟨vk i hi, vk kb hkb, fun _ => ?_, fun y => absurd hp y⟩⟩⟩
            intro x ex
            rw [ex, nI_1]
            exact q1 Post K' q
          · unfold wl_Mod_bestKind_25
            refine ⟨fun y => absurd y ni, fun _ => g2 _ hs _ (fun r'' hs' => ⟨fun _ => ?_, fun _ => ⟨fun y => absurd y nb, fun _ => ⟨vi i hi, vi kb hkb, fun _ => ?_, fun y => ?_⟩⟩⟩)⟩
            · intro x ex
              rw [ex, nI_1]
              exact q2 _ hs' Post K' q
            · intro x ex
              rw [ex, nI_1]
              exact q2 _ hs' Post K' q
            · rw [pr i _ hi hs', pr kb _ hkb hs'] at y
              exact absurd hp y
        · rcases he with he | he
          · obtain ⟨e, t, q1, q2⟩ := ih (i + 1) (nI kb) t1 (by omega) (by omega) (Or.inr ⟨kb, hkb, rfl⟩)
            refine ⟨e, t, fun Post K' q => ?_, fun r' hs Post K' q => ?_⟩
            · unfold wl_Ham_bestKind_37
              rw [clk i hi, clk kb hkb]
              refine ⟨fun y => absurd y ni, fun _ => ⟨fun y => absurd y nb, fun _ => ⟨vk i hi, vk kb hkb, fun y => absurd y hp, fun _ => g1 _ ⟨fun _ => ?_, fun y => absurd he y⟩⟩⟩⟩
              intro x ex
              rw [ex, nI_1]
              exact q1 Post K' q
            · unfold wl_Mod_bestKind_25
              refine ⟨fun y => absurd y ni, fun _ => g2 _ hs _ (fun r'' hs' => ⟨fun _ => ?_, fun y => absurd he y⟩)⟩
              intro x ex
              rw [ex, nI_1]
              exact q2 _ hs' Post K' q
          · obtain ⟨e, t, q1, q2⟩ := ih (i + 1) (nI i) t1 (by omega) (by omega) (Or.inr ⟨i, hi, rfl⟩)
            have ne : ¬ e0 = 0 := by rw [he]; decide
            refine ⟨e, t, fun Post K' q => ?_, fun r' hs Post K' q => ?_⟩
            · unfold wl_Ham_bestKind_37
              rw [clk i hi, clk kb hkb]
              refine ⟨fun y => absurd y ni, fun _ => ⟨fun y => absurd y nb, fun _ => ⟨vk i hi, vk kb hkb, fun y => absurd y hp, fun _ => g1 _ ⟨fun y => absurd y ne, fun _ => ?_⟩⟩⟩⟩
              intro x ex
              rw [ex, nI_1]
              exact q1 Post K' q
            · unfold wl_Mod_bestKind_25
              refine ⟨fun y => absurd y ni, fun _ => g2 _ hs _ (fun r'' hs' => ⟨fun y => absurd y ne, fun _ => ⟨fun y => absurd y nb, fun _ => ⟨vi i hi, vi kb hkb, fun y => ?_, fun _ => ?_⟩⟩⟩)⟩
              · rw [pr i _ hi hs', pr kb _ hkb hs'] at y
                exact absurd y hp
              · intro x ex
                rw [ex, nI_1]
                exact q2 _ hs' Post K' q
theorem p_bestKind {z : ZZ} {r : RS} (h : TRx z r) {K : ZZ → RS → Prop} (hK : ∀ z' r', TRx z' r' → K z' r') {p1 : Int32} {mw : (Int32 → RS → Prop) → Prop} (hmw : ∀ Post, wp_Mod_bestKind r p1 Post → mw Post) : wp_Ham_bestKind z p1 (fun x z1 => mw (fun y r1 => (x = y → K z1 r1) ∧ (¬ x = y → False))) := by
  obtain ⟨w, N, hc⟩ := h.cr
  have hN := hc.1.1.2.1
  have hc4 : z.1.1 4 = nI N := hc.1.1.2.2.2.2.1
  have hst : r.1 2 = z.1.1 1 := hc.1.1.2.2.2.2.2.2.2
  have ok : ∀ e : Int32, (e = e → K z r) ∧ (¬ e = e → False) := fun e => ⟨fun _ => hK _ _ h, fun q => absurd rfl q⟩
  unfold wp_Ham_bestKind
  refine k_exists hc4 hN (fun hM => ⟨fun q => absurd q (by decide), fun _ => ⟨fun hu => ?_, fun hu => hmw _ ?_⟩⟩) (fun hM => ⟨fun _ => hmw _ ?_, fun q => absurd rfl q⟩)
  · obtain ⟨j, hj, rfl⟩ := isM_of hM hN
    obtain ⟨e, t, q1, q2⟩ := best_loop (z := z) hc hj hu 5 0 (-9) z.2.2.2.2.2.2.2.2 (by omega) (by omega) (Or.inl rfl)
    refine ⟨5, q1 _ _ (hmw _ ?_)⟩
    unfold wp_Mod_bestKind
    refine s_isMember hc.rg (fun _ => ⟨fun x => absurd x (by decide), fun _ => ?_⟩) (fun y => absurd hM y)
    refine s_isSettled (fun y => absurd (hst.symm.trans y) (by rw [hu]; decide)) (fun _ => ⟨fun _ => ⟨5, q2 r (Same.refl r) _ _ (fun r'' hs => ⟨fun _ => hK _ _ (TRx_back h hs), fun y => absurd rfl y⟩)⟩, fun y => absurd rfl y⟩)
  · unfold wp_Mod_bestKind
    have hs : z.1.1 1 = 1 := hc.1.1.2.2.2.2.2.2.1.resolve_left hu
    refine s_isMember hc.rg (fun _ => ⟨fun x => absurd x (by decide), fun _ => ?_⟩) (fun y => absurd hM y)
    exact s_isSettled (fun _ => ⟨fun x => absurd x (by decide), fun _ => ok _⟩) (fun y => absurd (hst.trans hs) y)
  · unfold wp_Mod_bestKind
    exact s_isMember hc.rg (fun q => absurd q hM) (fun _ => ⟨fun _ => ok _, fun q => absurd rfl q⟩)
