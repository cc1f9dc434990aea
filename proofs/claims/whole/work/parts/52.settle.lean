/-! Settling, as one change on both sides. -/
def filF (f : Nat → Int32) (v : Int32) (i : Nat) : Nat → Int32 := fun m => if m < i then v else f m
theorem t_fill {f : Nat → Int32} {v : Int32} {Post : (Nat → Int32) → Prop} (h : Post (filF f v 12)) : wp_Arr_fill f v Post := by
  have go : ∀ n i, i ≤ 12 → 12 - i < n → wl_Arr_fill_5 Post (fun u => Post u) n v (nI i) 12 (filF f v i) := by
    intro n
    induction n with
    | zero => intro i h1 h2; omega
    | succ n ih =>
      intro i h1 h2
      unfold wl_Arr_fill_5
      rw [i12 h1]
      refine ⟨fun q => by subst q; exact h, fun q => ⟨vp_in_nI (by omega) (by omega), ?_⟩⟩
      intro u eu x ex
      rw [eu, ex, nI_1, nI_clamp (by omega)]
      have e : upd (filF f v i) i v = filF f v (i + 1) := by
        funext m
        rw [upd_if]
        unfold filF
        by_cases z : m = i
        · rw [if_pos z, if_pos (by omega)]
        · rw [if_neg z]
          by_cases y : m < i
          · rw [if_pos y, if_pos (by omega)]
          · rw [if_neg y, if_neg (by omega)]
      rw [e]
      exact ih (i + 1) (by omega) (by omega)
  have e0 : filF f v 0 = f := by
    funext m
    unfold filF
    rw [if_neg (by omega)]
  have := go 13 0 (by omega) (by omega)
  rw [e0] at this
  exact ⟨13, this⟩
/-- the rows emptied -/
def wtF (g : Nat → Int32) (t : Nat) : Nat → Int32 := fun o => if 12 ≤ o ∧ (o - 12) % 15 = 0 ∧ (o - 12) / 15 < t then 0 else g o
theorem kd_wtF {g : Nat → Int32} {k v : Nat} (hk : k < 4) (hv : v < 15) : kd (wtF g 4) k v = if v = 2 then 0 else kd g k v := by
  unfold kd wtF
  by_cases e : v = 2
  · rw [if_pos e, if_pos (by omega)]
  · rw [if_neg e, if_neg (by omega)]
theorem mb_wtF {g : Nat → Int32} {m v : Nat} : mb (wtF g 4) m v = mb g m v := by
  unfold mb wtF
  rw [if_neg (by omega)]
theorem gl_wtF {g : Nat → Int32} {i : Nat} (hi : i < 10) : wtF g 4 i = g i := by
  unfold wtF
  rw [if_neg (by omega)]
theorem out_wtF {g : Nat → Int32} {i : Nat} (hi : 226 ≤ i) : wtF g 4 i = g i := by
  unfold wtF
  rw [if_neg (by omega)]
theorem wt_loop {u : RS} {a1 : Int32} {Post K : Int32 → RS → Prop} (h : K a1 (rR u (wtF u.1 4))) : ∀ n t, t ≤ 4 → 4 - t < n → wl_Mod_doSettle_215 Post K n a1 (nI t) (rR u (wtF u.1 t)) := by
  intro n
  induction n with
  | zero => intro t h1 h2; omega
  | succ n ih =>
    intro t h1 h2
    unfold wl_Mod_doSettle_215
    by_cases ht : t = 4
    · subst ht
      exact ⟨fun _ => h, fun z => absurd (Int32.le_refl _) z⟩
    · refine ⟨fun z => absurd z (nI_ge (a := t) (b := 4) (by omega) (by omega)), fun _ => ⟨oki2 (by omega), ?_⟩⟩
      intro v ev x ex
      rw [ev, ex, nI_1, okc2 (by omega)]
      have e : upd (rR u (wtF u.1 t)).1 (10 + 15 * t + 2) 0 = wtF u.1 (t + 1) := by
        funext o
        show upd (wtF u.1 t) (10 + 15 * t + 2) 0 o = _
        rw [upd_if]
        unfold wtF
        by_cases z : o = 10 + 15 * t + 2
        · rw [if_pos z, if_pos (by omega)]
        · rw [if_neg z]
          by_cases y : 12 ≤ o ∧ (o - 12) % 15 = 0 ∧ (o - 12) / 15 < t
          · rw [if_pos y, if_pos (by omega)]
          · rw [if_neg y, if_neg (by omega)]
      rw [e]
      exact ih (t + 1) (by omega) (by omega)
theorem wtF_0 (g : Nat → Int32) : wtF g 0 = g := by
  funext o
  unfold wtF
  rw [if_neg (by omega)]
def endC (c : CS) : CS := cS (cA (cA c 9 (filF (c.2.1 9) (-9) 12)) 10 (filF (c.2.1 10) 0 12)) 1 1
def endF (g : Nat → Int32) (hh : Int32) : Nat → Int32 := setG (setG (setG (wtF g 4) 8 (wtF g 4 8 + hh)) 4 0) 2 1
theorem gl_endF {g : Nat → Int32} {hh : Int32} {i : Nat} (hi : i < 10) : endF g hh i = if i = 2 then 1 else if i = 4 then 0 else if i = 8 then g 8 + hh else g i := by
  unfold endF
  simp only [gl_setG, gl_wtF hi, gl_wtF (show 8 < 10 by omega)]
theorem mb_endF {g : Nat → Int32} {hh : Int32} {m v : Nat} : mb (endF g hh) m v = mb g m v := by
  unfold endF
  rw [mb_setG (by omega), mb_setG (by omega), mb_setG (by omega), mb_wtF]
theorem kd_endF {g : Nat → Int32} {hh : Int32} {k v : Nat} (hk : k < 4) (hv : v < 15) : kd (endF g hh) k v = if v = 2 then 0 else kd g k v := by
  unfold endF
  rw [kd_setG (by omega), kd_setG (by omega), kd_setG (by omega), kd_wtF hk hv]
theorem end_rel {b : Nat → Int32} {hh : Int32} {c : CS} {g : Nat → Int32} {w N : Nat} (h : CLr b hh c g w N 0 N) (h6 : c.1 6 = 0) : CRw (endC c) (endF g hh) w N := by
  obtain ⟨hG, hM, hI, hO, h2, ⟨a1, a2, a3, a4, a5, a6, a7⟩, h12, hk⟩ := h
  have hN := hG.2.1
  have e9 : ∀ m, m < 12 → (endC c).2.1 9 m = -9 := fun m hm => if_pos hm
  have e10 : ∀ m, m < 12 → (endC c).2.1 10 m = 0 := fun m hm => if_pos hm
  have eo : ∀ a, a ≠ 9 → a ≠ 10 → (endC c).2.1 a = c.2.1 a := by
    intro a y9 y10
    show (if a = 10 then _ else if a = 9 then _ else c.2.1 a) = _
    rw [if_neg y10, if_neg y9]
  have ea : ∀ a m, m < 12 → (endC c).2.1 a m = (fgC c N).2.1 a m := by
    intro a m hm
    by_cases y9 : a = 9
    · subst y9
      rw [e9 m hm, fg_9]
      by_cases z : m < N
      · rw [if_pos z]
      · rw [if_neg z]
        exact (hO m (by omega) hm).2.2.2.2.2.2.1.symm
    · by_cases y10 : a = 10
      · subst y10
        rw [e10 m hm, fg_10]
        by_cases z : m < N
        · rw [if_pos z]
        · rw [if_neg z]
          exact (hO m (by omega) hm).2.2.2.2.2.2.2.1.symm
      · rw [eo a y9 y10, fg_o y9 y10]
  refine ⟨⟨?_, fun m hm => CMm_eq (hM m hm) (fun a _ _ _ => ea a m (by omega)) rfl (fun v _ _ => mb_endF), fun m hm => CI_eq (hI m hm) (fun a _ _ _ => ea a m hm) rfl, fun m m1 m2 => CO_eq (hO m m1 m2) (fun a _ _ => ?_) rfl, fun k hk' => ?_⟩, ⟨⟨?_, ?_, ?_, ?_, ?_, ?_, fun m hm => ?_⟩, ?_⟩, ⟨fun z => absurd z (by show ¬ (1 : Int32) = 0; decide), fun _ m hm => ⟨fun hmN => ?_, e9 m hm⟩⟩⟩
  · obtain ⟨g1, g2, g3, g4, g5, g6, g7, g8⟩ := hG
    exact ⟨g1, g2, g3, by rw [gl_endF (by omega)]; exact g4, g5, by rw [gl_endF (by omega)]; exact g6, Or.inr rfl, by rw [gl_endF (by omega)]; rfl⟩
  · rw [ea a m m2]
    by_cases y9 : a = 9
    · subst y9
      rw [fg_9, if_neg (by omega)]
    · by_cases y10 : a = 10
      · subst y10
        rw [fg_10, if_neg (by omega)]
      · rw [fg_o y9 y10]
  · obtain ⟨k1, k2, k3⟩ := hk k hk'
    refine ⟨by rw [kd_endF hk' (by omega), if_neg (by omega)]; exact k1, k2, by rw [kd_endF hk' (by omega), if_neg (by omega)]; exact k3, 0, by omega, by rw [kd_endF hk' (by omega), if_pos rfl]; rfl, fun i hi => by omega, fun m hm z => ?_⟩
    rw [e9 m hm] at z
    exact absurd z (neg9_ne hk')
  · rw [gl_endF (by omega)]; exact a1
  · rw [gl_endF (by omega)]; exact a2
  · rw [gl_endF (by omega)]; exact a3
  · rw [gl_endF (by omega)]; exact a4
  · rw [gl_endF (by omega), if_neg (by omega), if_neg (by omega), if_pos rfl, Int32.add_zero]; exact a5
  · rw [gl_endF (by omega)]; exact a6
  · have h7 : c.2.1 4 m = mb g m 10 + (if N ≤ m then b m else 0) := a7 m hm
    rw [if_neg (by omega)] at h7
    rw [mb_endF]
    exact h7
  · rw [gl_endF (by omega), if_neg (by omega), if_pos rfl]; exact h6
  · rw [eo 1 (by omega) (by omega)]
    exact h2 m hmN
/-- as OpSim, where the reference may leave its marks -/
def OpSim2 (cw : (Int32 → CS → Prop) → Prop) (nw : RS → (Int32 → RS → Prop) → Prop) (dw : RS → (Int32 → RS → Prop) → Prop) (c : CS) : Prop :=
  ∀ f f2 w N, CRw c f w N → CRw c f2 w N →
    (∃ e : Int32, e < 0 ∧ (∀ Post : Int32 → CS → Prop, Post e c → cw Post) ∧ ∀ (u : RS) (Post : Int32 → RS → Prop), u.1 = f → Post e u → nw u Post) ∨
    (∃ (x : Int32) (c' : CS) (g' : Nat → Int32) (w' N' : Nat), 0 ≤ x ∧ CRw c' g' w' N' ∧ (∀ i, 226 ≤ i → g' i = f2 i) ∧ (∀ Post : Int32 → CS → Prop, Post x c' → cw Post) ∧ (∀ (u : RS) (Post : Int32 → RS → Prop), u.1 = f → Post 0 u → nw u Post) ∧ ∀ (u : RS) (Post : Int32 → RS → Prop), u.1 = f2 → (∀ F, Post x (rR (rF u F) g')) → dw u Post)
theorem OpSim.two {cw : (Int32 → CS → Prop) → Prop} {nw dw : RS → (Int32 → RS → Prop) → Prop} {c : CS} (h : OpSim cw nw dw c) : OpSim2 cw nw dw c := by
  intro f f2 w N h1 h2
  rcases h f f2 w N h1 h2 with z | ⟨x, c', g', w', N', r1, r2, r3, r4, r5, r6⟩
  · exact Or.inl z
  · exact Or.inr ⟨x, c', g', w', N', r1, r2, r3, r4, r5, fun u Post e q => r6 u Post e (q u.2.2.1)⟩
theorem CAg_cong {c : CS} {g : Nat → Int32} {N : Nat} {B B' hh : Int32} {b b' : Nat → Int32} (h : CAg B b hh c g N) (hB : B = B') (hb : ∀ m, m < N → b m = b' m) : CAg B' b' hh c g N := by
  obtain ⟨a1, a2, a3, a4, a5, a6, a7⟩ := h
  subst hB
  exact ⟨a1, a2, a3, a4, a5, a6, fun m hm => by rw [a7 m hm, hb m hm]⟩
theorem CP_pool {c : CS} {g : Nat → Int32} {w N : Nat} {v : Int32} (h : CP c g w N) : CP (cS c 6 v) g w N := h
theorem CP_lay {c : CS} {g b : Nat → Int32} {w N i : Nat} (h : CP c g w N) : CP c (layF g b i) w N := by
  obtain ⟨hG, hM, hI, hO, hQ⟩ := h
  exact ⟨CG_eq hG rfl rfl rfl (gl_layF (by omega)) (gl_layF (by omega)) (gl_layF (by omega)), fun m hm => CMm_eq (hM m hm) (fun _ _ _ _ => rfl) rfl (fun v hv _ => by rw [mb_layF (by omega), if_neg (by omega)]), hI, hO, fun q hq => CQ_eq (hQ q hq) hG.2.1 rfl rfl (fun _ _ => rfl) (fun _ _ => rfl) (fun v hv => kd_layF hq hv)⟩
theorem CAg_lay {c : CS} {g b' : Nat → Int32} {N i : Nat} {B hh : Int32} {b : Nat → Int32} (h : CAg B b hh c g N) : CAg B b hh c (layF g b' i) N := by
  obtain ⟨a1, a2, a3, a4, a5, a6, a7⟩ := h
  refine ⟨by rw [gl_layF (by omega)]; exact a1, by rw [gl_layF (by omega)]; exact a2, by rw [gl_layF (by omega)]; exact a3, by rw [gl_layF (by omega)]; exact a4, by rw [gl_layF (by omega)]; exact a5, by rw [gl_layF (by omega)]; exact a6, fun m hm => ?_⟩
  rw [mb_layF (by omega), if_neg (by omega)]
  exact a7 m hm
theorem set_end {hh : Int32} (v : RS) (Post : Int32 → RS → Prop) (h : Post hh (rR v (endF v.1 hh))) : wl_Mod_doSettle_215 Post (fun x43 u42 => (∀ u44 : RS, u44 = (rR u42 (upd u42.1 (8 : Int32).toNatClampNeg ((u42.1 (8 : Int32).toNatClampNeg) + x43))) → (∀ u45 : RS, u45 = (rR u44 (upd u44.1 (4 : Int32).toNatClampNeg 0)) → (∀ u46 : RS, u46 = (rR u45 (upd u45.1 (2 : Int32).toNatClampNeg 1)) → Post x43 u46)))) 5 hh 0 v := by
  have := wt_loop (u := v) (a1 := hh) (Post := Post) (K := fun x43 u42 => (∀ u44 : RS, u44 = (rR u42 (upd u42.1 (8 : Int32).toNatClampNeg ((u42.1 (8 : Int32).toNatClampNeg) + x43))) → (∀ u45 : RS, u45 = (rR u44 (upd u44.1 (4 : Int32).toNatClampNeg 0)) → (∀ u46 : RS, u46 = (rR u45 (upd u45.1 (2 : Int32).toNatClampNeg 1)) → Post x43 u46)))) (by
    simp only [c8, c4, c2, forall_eq]
    exact h) 5 0 (by omega) (by omega)
  rw [wtF_0] at this
  exact this
theorem sim_settle (c : CS) : OpSim2 (fun P => wp_Clb_settleAll c P) (fun u P => wp_Mod_isSettled u (fun x v => (x = 0 → P 0 v) ∧ (¬ x = 0 → P (-2) v))) (fun u P => wp_Mod_doSettle u P) c := by
  intro f f2 w N h h2
  have hst : f 2 = c.1 1 := h.1.1.2.2.2.2.2.2.2
  by_cases hu : c.1 1 = 0
  · have hn1 : ¬ f 2 = 1 := by rw [hst, hu]; decide
    have hN := h.1.1.2.1
    have hw := h.1.1.1
    obtain ⟨b1c, p1, p2, p3, p4⟩ := bonus_loop (c0 := c) 13 0 c h2.1 (CAg_cong h2.2.1.1 rfl (fun m _ => by show (0 : Int32) = if m < 0 then _ else 0; rw [if_neg (by omega)])) rfl rfl rfl (by omega) (by omega)
    obtain ⟨hh, c2', g2, q1, q2, q3, q4, q5, q6, q7, q8⟩ := kinds_loop 5 0 (cS b1c 6 0) (layF f2 (bon c N) N) 0 (CP_lay (CP_pool p1)) (CAg_lay p2) (by omega) (by omega)
    have hcl : CLr (bon c N) hh c2' g2 w N N 0 := by
      have bs := brs_bsum (bon c N) N 0
      have bs : brs (bon c N) N 0 = bsum (bon c N) N := by
        have e : bsum (bon c N) 0 + brs (bon c N) N 0 = bsum (bon c N) (0 + N) := bs
        rw [Nat.zero_add] at e
        rw [← e]
        exact (Int32.zero_add _).symm
      refine ⟨q1.1, fun m hm => CMm_eq (q1.2.1 m hm) (fun a _ _ _ => ?_) rfl (fun _ _ _ => rfl), fun m hm => CI_eq (q1.2.2.1 m hm) (fun a _ _ _ => ?_) rfl, q1.2.2.2.1, fun m hm => by omega, CAg_cong q2 bs.symm (fun m hm => by rw [if_pos hm, if_pos (Nat.zero_le m)]), fun m hm => by rw [q6.1, mb_layF (by omega), if_pos ⟨rfl, hm⟩], fun k hk => ⟨(q1.2.2.2.2 k hk).1, (q1.2.2.2.2 k hk).2.1, (q1.2.2.2.2 k hk).2.2.1⟩⟩
      all_goals
        by_cases y9 : a = 9
        · subst y9
          rw [fg_9, if_neg (by omega)]
        · by_cases y10 : a = 10
          · subst y10
            rw [fg_10, if_neg (by omega)]
          · rw [fg_o y9 y10]
    obtain ⟨c3', g3, r1, r2, r3, r4, r5, r6⟩ := close_loop N 0 c2' g2 hcl (by omega)
    have h80 : f2 8 = 0 := by
      have e1 : c.1 2 = f2 8 + 0 := h2.2.1.1.2.2.2.2.1
      rw [h2.2.2.1 hu, Int32.add_zero] at e1
      exact e1.symm
    have g80 : g3 8 = 0 := by rw [r3, q6.2, gl_layF (by omega), h80]
    have ex : c3'.1 2 = hh := by
      have := r1.2.2.2.2.2.1.2.2.2.2.1
      rw [g80, Int32.zero_add] at this
      exact this
    obtain ⟨a', y1, y2⟩ := q3.2 0 rfl
    refine Or.inr ⟨hh, endC c3', endF g3 hh, w, N, by rw [y2]; exact nI_nn (by omega), end_rel r1 (by rw [r2, q4]; rfl), fun i hi => ?_, fun Post q => ?_, fun u Post e q => s_isSettled (fun z => absurd (by rw [← e]; exact z) hn1) (fun _ => ⟨fun _ => q, fun z => absurd rfl z⟩), fun u Post e q => ?_⟩
    · unfold endF
      rw [out_setG (by omega) hi, out_setG (by omega) hi, out_setG (by omega) hi, out_wtF hi, r4 i hi, q5 i hi, out_layF hN hi]
    · show wp_Clb_settleAll c Post
      unfold wp_Clb_settleAll
      refine ⟨fun _ => ⟨13, p4 _ _ ?_⟩, fun z => absurd hu z⟩
      intro v ev
      rw [ev]
      refine ⟨5, q7 _ _ ⟨N + 1, r5 _ _ ?_⟩⟩
      unfold wp_Hmp_forgetChoices
      refine t_fill ?_
      intro v2 ev2
      rw [ev2]
      refine t_fill ?_
      intro v4 ev4
      rw [ev4]
      intro v5 ev5
      rw [ev5, ← ex] at *
      exact q
    · show wp_Mod_doSettle u Post
      unfold wp_Mod_doSettle
      refine t_bonuses (c := c) (w := w) (N := N) (by rw [e]; exact h2.1.1) (by rw [e]; exact h2.1.2.1) h2.1.2.2.1 (by rw [e]; exact h2.2.1.2.symm) ⟨5, q8 _ _ _ (by rw [e]; rfl) (fun F => ⟨N + 1, r6 _ _ _ rfl ⟨5, set_end _ Post ?_⟩⟩)⟩
      exact q F
  · have hs : c.1 1 = 1 := h.1.1.2.2.2.2.2.2.1.resolve_left hu
    refine Or.inl ⟨-2, by decide, fun Post q => ?_, fun u Post e q => s_isSettled (fun z => ⟨fun y => absurd y (by decide), fun _ => q⟩) (fun z => absurd (by rw [e, hst]; exact hs) z)⟩
    show wp_Clb_settleAll c Post
    unfold wp_Clb_settleAll
    exact ⟨fun z => absurd z hu, fun _ => q⟩
