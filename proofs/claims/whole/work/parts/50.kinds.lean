/-! The kinds, one after another, on both sides. -/
theorem nar0 : vp_nar .boolean 0 = 0 := by decide
theorem nar1 : vp_nar .boolean 1 = 1 := by decide
theorem first_loop {u0 : RS} {N k : Nat} {a1 : Int32} {Post : Int32 → RS → Prop} {K : Int32 → Int32 → RS → Prop} (hN : N ≤ 12) (hk : k < 4) (h1 : u0.1 1 = nI N) (h : ∀ F' : Nat → Int32, (∀ m, m < N → (F' m = 0 ∨ F' m = 1) ∧ (F' m = 1 ↔ mb u0.1 m 3 = nI k ∧ mb u0.1 m 4 = 1)) → K a1 (nI k) (rF u0 F')) : ∀ (n i : Nat) (F : Nat → Int32), i ≤ N → N - i < n → (∀ m, m < i → (F m = 0 ∨ F m = 1) ∧ (F m = 1 ↔ mb u0.1 m 3 = nI k ∧ mb u0.1 m 4 = 1)) → wl_Mod_doSettle_15 Post K n a1 (nI k) (nI i) (rF u0 F) := by
  intro n
  induction n with
  | zero => intro i F h1 h2; omega
  | succ n ih =>
    intro i F h2 h3 hF
    unfold wl_Mod_doSettle_15
    have e1 : (rF u0 F).1 1 = nI N := h1
    rw [c1, e1]
    refine ⟨fun q => ?_, fun q => ?_⟩
    · have : i = N := by
        rcases Nat.lt_or_ge i N with z | z
        · exact absurd q (nI_ge z (by omega))
        · omega
      subst this
      exact h F hF
    · have hi : i < N := Nat.lt_of_not_le (fun z => q (nI_le z (by omega)))
      have hin : vp_in (nI i) 12 := vp_in_nI (by omega) (by omega)
      simp only [ofc3 (show i < 12 by omega), ofc4 (show i < 12 by omega), nI_clamp (show i < 2 ^ 31 by omega), forall_eq, nar0, nar1]
      have nx : ∀ v : Int32, (v = 0 ∨ v = 1) → (v = 1 ↔ mb u0.1 i 3 = nI k ∧ mb u0.1 i 4 = 1) → wl_Mod_doSettle_15 Post K n a1 (nI k) (nI i + 1) (rF u0 (upd F i v)) := by
        intro v v1 v2
        rw [nI_1]
        refine ih (i + 1) _ (by omega) (by omega) (fun m hm => ?_)
        rw [upd_if]
        by_cases e : m = i
        · rw [if_pos e, e]
          exact ⟨v1, v2⟩
        · rw [if_neg e]
          exact hF m (by omega)
      refine ⟨ofi3 (by omega), fun z => ⟨ofi4 (by omega), fun y => ⟨hin, nx 1 (Or.inr rfl) ⟨fun _ => ⟨z, y⟩, fun _ => rfl⟩⟩, fun y => ⟨hin, nx 0 (Or.inl rfl) ⟨fun x => absurd x (by decide), fun x => absurd x.2 y⟩⟩⟩, fun z => ⟨hin, nx 0 (Or.inl rfl) ⟨fun x => absurd x (by decide), fun x => absurd x.1 z⟩⟩⟩
theorem kind_loop {w N k : Nat} {B : Int32} {b F : Nat → Int32} (hk : k < 4) : ∀ (n i : Nat) (c : CS) (g : Nat → Int32) (hh : Int32), CP c g w N → CAg B b hh c g N → i ≤ N → N - i < n → (∀ m, i ≤ m → m < N → (F m = 0 ∨ F m = 1) ∧ (F m = 1 ↔ kept c k m)) → ∃ (hh' : Int32) (c' : CS) (g' : Nat → Int32), CP c' g' w N ∧ CAg B b hh' c' g' N ∧ (c'.1 1 = c.1 1 ∧ ∀ a, hh = nI a → ∃ a', a' ≤ a + (N - i) ∧ hh' = nI a') ∧ c'.1 6 = c.1 6 ∧ (∀ o, 226 ≤ o → g' o = g o) ∧ ((∀ m, mb g' m 12 = mb g m 12) ∧ g' 8 = g 8) ∧ (∀ (Post K : CS → Prop), K c' → wl_Clb_handOutKind_2 Post K n (nI k) (nI i) c) ∧ ∀ (u : RS) (Post : Int32 → RS → Prop) (K : Int32 → Int32 → RS → Prop), u.1 = g → (∀ m, m < N → u.2.2.1 m = F m) → K hh' (nI k) (rR u g') → wl_Mod_doSettle_72 Post K n hh (nI k) (nI i) u := by
  intro n
  induction n with
  | zero => intro i c g hh _ _ h1 h2; omega
  | succ n ih =>
    intro i c g hh h hA h1 h2 hF
    have hN := h.1.2.1
    have hc4 : c.1 4 = nI N := h.1.2.2.2.2.1
    have hg1 : g 1 = nI N := h.1.2.2.2.2.2.1
    by_cases hi : i = N
    · subst hi
      refine ⟨hh, c, g, h, hA, ⟨rfl, fun a e => ⟨a, by omega, e⟩⟩, rfl, fun _ _ => rfl, ⟨fun _ => rfl, rfl⟩, fun Post K q => ?_, fun u Post K e eF q => ?_⟩
      · unfold wl_Clb_handOutKind_2
        rw [hc4]
        exact ⟨fun _ => q, fun z => absurd (Int32.le_refl _) z⟩
      · unfold wl_Mod_doSettle_72
        rw [c1, e, hg1]
        rw [← e] at q
        exact ⟨fun _ => q, fun z => absurd (Int32.le_refl _) z⟩
    · have hlt : i < N := by omega
      have hin : vp_in (nI i) 12 := vp_in_nI (by omega) (by omega)
      have hng : ¬ nI N ≤ nI i := nI_ge hlt (by omega)
      obtain ⟨f1, f2⟩ := hF i (Nat.le_refl i) hlt
      by_cases hkp : kept c k i
      · obtain ⟨p, p1, p2, p3⟩ := (h.2.2.2.2 k hk).2.1
        obtain ⟨d, c1', g1, r1, r2, r3, r4, r4', r5, r6, r7, r8, r9⟩ := hand_chain (p := p) hk p2 13 0 (nI i) c g hh h hA (Or.inr ⟨i, hlt, rfl, hkp⟩) (by have := ms_le c k; omega) (by have := ms_le c k; omega)
        obtain ⟨hh', c', g', s1, s2, s3, s4, s5, s6, s7, s8⟩ := ih (i + 1) c1' g1 (hh + d) r2 r3 (by omega) (by omega) (fun m hm1 hm2 => ⟨(hF m (by omega) hm2).1, by
          rw [r7 m (by omega), (hF m (by omega) hm2).2]
          exact ⟨fun z => ⟨z, fun y => absurd ((nI_eq (by omega) (by omega)).mp y) (by omega)⟩, fun z => z.1⟩⟩)
        refine ⟨hh', c', g', s1, s2, ⟨s3.1.trans r4, fun a ea => by
          rcases r1 with z | z
          · obtain ⟨a', y1, y2⟩ := s3.2 a (by rw [z, Int32.add_zero]; exact ea)
            exact ⟨a', by omega, y2⟩
          · obtain ⟨a', y1, y2⟩ := s3.2 (a + 1) (by rw [z, ea, nI_1])
            exact ⟨a', by omega, y2⟩⟩, s4.trans r4', fun o ho => (s5 o ho).trans (r5 o ho), ⟨fun m => (s6.1 m).trans (r6.1 m), s6.2.trans r6.2⟩, fun Post K q => ?_, fun u Post K e eF q => ?_⟩
        · unfold wl_Clb_handOutKind_2
          rw [hc4, nI_clamp (show i < 2 ^ 31 by omega)]
          refine ⟨fun z => absurd z hng, fun _ => ⟨hin, fun _ => ?_, fun z => absurd hkp.1 z⟩⟩
          unfold wp_Hmp_hasOneKept
          rw [nI_clamp (show i < 2 ^ 31 by omega), hkp.1]
          refine ⟨hin, fun z => (neg9_ne' z).elim, fun _ => ⟨hin, fun _ => ⟨fun z => absurd z (by decide), fun _ => ?_⟩, fun z => absurd hkp.2 z⟩⟩
          unfold wp_Clb_handOutOne
          rw [nI_clamp (show k < 2 ^ 31 by omega), p3]
          refine ⟨vp_in_nI (by omega) (by omega), fun x ex => ⟨13, ?_⟩⟩
          rw [ex]
          refine r8 (fun v => ∀ x7 : Int32, x7 = nI i + 1 → wl_Clb_handOutKind_2 Post K n (nI k) x7 v) ?_
          intro x ex
          rw [ex, nI_1]
          exact s7 Post K q
        · unfold wl_Mod_doSettle_72
          rw [c1, e, hg1, nI_clamp (show i < 2 ^ 31 by omega), eF i hlt]
          have h1 : F i = 1 := f2.mpr hkp
          refine ⟨fun z => absurd z hng, fun _ => ⟨hin, fun z => absurd (h1.symm.trans z) (by decide), fun _ => ?_⟩⟩
          rw [handOut_eq, okc0 hk]
          have ep : u.1 (10 + 15 * k + 0) = nI p := by
            rw [e]
            exact (h.2.2.2.2 k hk).1.symm.trans p3
          rw [ep]
          refine ⟨oki0 hk, fun x ex => ⟨13, ?_⟩⟩
          rw [ex]
          refine r9 u _ e ?_
          have nx : ∀ v : Int32, v = hh + d → wl_Mod_doSettle_72 Post K n v (nI k) (nI i + 1) (rR u g1) := by
            intro v ev
            rw [ev, nI_1]
            exact s8 _ Post K rfl eF q
          rcases r1 with z | z
          · refine ⟨fun _ => ?_, fun y => absurd z y⟩
            intro x4 e4 x5 e5
            rw [e4, e5]
            exact nx _ (by rw [z])
          · refine ⟨fun y => absurd (z.symm.trans y) (by decide), fun _ => ?_⟩
            intro x4 e4 x5 e5
            rw [e4, e5]
            exact nx _ (by rw [z])
      · obtain ⟨hh', c', g', s1, s2, s3, s4, s5, s6, s7, s8⟩ := ih (i + 1) c g hh h hA (by omega) (by omega) (fun m hm1 hm2 => hF m (by omega) hm2)
        refine ⟨hh', c', g', s1, s2, ⟨s3.1, fun a ea => (s3.2 a ea).elim (fun a' y => ⟨a', by have := y.1; omega, y.2⟩)⟩, s4, s5, s6, fun Post K q => ?_, fun u Post K e eF q => ?_⟩
        · unfold wl_Clb_handOutKind_2
          rw [hc4, nI_clamp (show i < 2 ^ 31 by omega)]
          have nx : ∀ x : Int32, x = nI i + 1 → wl_Clb_handOutKind_2 Post K n (nI k) x c := by
            intro x ex
            rw [ex, nI_1]
            exact s7 Post K q
          refine ⟨fun z => absurd z hng, fun _ => ⟨hin, fun z => ?_, fun _ => nx⟩⟩
          unfold wp_Hmp_hasOneKept
          rw [nI_clamp (show i < 2 ^ 31 by omega)]
          exact ⟨hin, fun _ => ⟨fun _ => nx, fun y => absurd rfl y⟩, fun _ => ⟨hin, fun y => absurd ⟨z, y⟩ hkp, fun _ => ⟨fun _ => nx, fun y => absurd rfl y⟩⟩⟩
        · unfold wl_Mod_doSettle_72
          rw [c1, e, hg1, nI_clamp (show i < 2 ^ 31 by omega), eF i hlt]
          have h0 : F i = 0 := f1.resolve_right (fun z => hkp (f2.mp z))
          refine ⟨fun z => absurd z hng, fun _ => ⟨hin, fun _ => ?_, fun z => absurd h0 z⟩⟩
          intro x4 e4 x5 e5
          rw [e4, e5, nI_1, Int32.add_zero]
          exact s8 u Post K e eF q
theorem kinds_loop {w N : Nat} {B : Int32} {b : Nat → Int32} : ∀ (n t : Nat) (c : CS) (g : Nat → Int32) (hh : Int32), CP c g w N → CAg B b hh c g N → t ≤ 4 → 4 - t < n → ∃ (hh' : Int32) (c' : CS) (g' : Nat → Int32), CP c' g' w N ∧ CAg B b hh' c' g' N ∧ (c'.1 1 = c.1 1 ∧ ∀ a, hh = nI a → ∃ a', a' ≤ a + 12 * (4 - t) ∧ hh' = nI a') ∧ c'.1 6 = c.1 6 ∧ (∀ o, 226 ≤ o → g' o = g o) ∧ ((∀ m, mb g' m 12 = mb g m 12) ∧ g' 8 = g 8) ∧ (∀ (Post : Int32 → CS → Prop) (K : CS → Prop), K c' → wl_Clb_settleAll_49 Post K n (nI t) c) ∧ ∀ (u : RS) (Post K : Int32 → RS → Prop), u.1 = g → (∀ F, K hh' (rR (rF u F) g')) → wl_Mod_doSettle_8 Post K n hh (nI t) u := by
  intro n
  induction n with
  | zero => intro t c g hh _ _ h1 h2; omega
  | succ n ih =>
    intro t c g hh h hA h1 h2
    have hN := h.1.2.1
    have hg1 : g 1 = nI N := h.1.2.2.2.2.2.1
    by_cases ht : t = 4
    · subst ht
      refine ⟨hh, c, g, h, hA, ⟨rfl, fun a e => ⟨a, by omega, e⟩⟩, rfl, fun _ _ => rfl, ⟨fun _ => rfl, rfl⟩, fun Post K q => ?_, fun u Post K e q => ?_⟩
      · unfold wl_Clb_settleAll_49
        exact ⟨fun _ => q, fun z => absurd (Int32.le_refl _) z⟩
      · unfold wl_Mod_doSettle_8
        have := q u.2.2.1
        rw [← e] at this
        exact ⟨fun _ => this, fun z => absurd (Int32.le_refl _) z⟩
    · have hlt : t < 4 := by omega
      have hng : ¬ (4 : Int32) ≤ nI t := nI_ge (a := t) (b := 4) hlt (by omega)
      -- who is first is told from the row
      have hkm : ∀ m, m < N → ((mb g m 3 = nI t ∧ mb g m 4 = 1) ↔ kept c t m) := by
        intro m hm
        obtain ⟨b1, b2, b3, b4, b5, -⟩ := h.2.1 m hm
        rw [b4, b5]
        unfold kept
        constructor
        · rintro ⟨z1, z2⟩
          refine ⟨z1, Classical.byContradiction (fun y => ?_)⟩
          rw [if_neg (fun x => y x.2)] at z2
          exact absurd z2 (by decide)
        · rintro ⟨z1, z2⟩
          exact ⟨z1, if_pos ⟨fun y => neg9_ne hlt (y.symm.trans z1), z2⟩⟩
      -- one outcome for all arrays that tell it
      let F0 : Nat → Int32 := fun m => if decide (mb g m 3 = nI t ∧ mb g m 4 = 1) = true then 1 else 0
      have hF0 : ∀ m, m < N → (F0 m = 0 ∨ F0 m = 1) ∧ (F0 m = 1 ↔ mb g m 3 = nI t ∧ mb g m 4 = 1) := by
        intro m _
        show ((if decide (mb g m 3 = nI t ∧ mb g m 4 = 1) = true then (1 : Int32) else 0) = 0 ∨ _) ∧ ((if decide (mb g m 3 = nI t ∧ mb g m 4 = 1) = true then (1 : Int32) else 0) = 1 ↔ _)
        by_cases z : mb g m 3 = nI t ∧ mb g m 4 = 1
        · rw [if_pos (decide_eq_true z)]
          exact ⟨Or.inr (if_pos (decide_eq_true z)), fun _ => z, fun _ => rfl⟩
        · have zf : ¬ decide (mb g m 3 = nI t ∧ mb g m 4 = 1) = true := fun y => z (of_decide_eq_true y)
          rw [if_neg zf]
          exact ⟨Or.inl rfl, fun y => absurd y (by decide), fun y => absurd y z⟩
      obtain ⟨hh1, c1', g1, r1, r2, r3, r4, r5, r6, r7, r8⟩ := kind_loop (F := F0) hlt 13 0 c g hh h hA (by omega) (by omega) (fun m _ hm => ⟨(hF0 m hm).1, (hF0 m hm).2.trans (hkm m hm)⟩)
      obtain ⟨hh', c', g', s1, s2, s3, s4, s5, s6, s7, s8⟩ := ih (t + 1) c1' g1 hh1 r1 r2 (by omega) (by omega)
      refine ⟨hh', c', g', s1, s2, ⟨s3.1.trans r3.1, fun a ea => by
          obtain ⟨a1, y1, y2⟩ := r3.2 a ea
          obtain ⟨a', y3, y4⟩ := s3.2 a1 y2
          exact ⟨a', by omega, y4⟩⟩, s4.trans r4, fun o ho => (s5 o ho).trans (r5 o ho), ⟨fun m => (s6.1 m).trans (r6.1 m), s6.2.trans r6.2⟩, fun Post K q => ?_, fun u Post K e q => ?_⟩
      · unfold wl_Clb_settleAll_49
        refine ⟨fun z => absurd z hng, fun _ => ⟨13, ?_⟩⟩
        refine r7 _ _ ?_
        intro x ex
        rw [ex, nI_1]
        exact s7 Post K q
      · unfold wl_Mod_doSettle_8
        refine ⟨fun z => absurd z hng, fun _ => ⟨13, ?_⟩⟩
        refine first_loop (u0 := u) hN hlt (by rw [e]; exact hg1) (fun F' hF' => ⟨13, ?_⟩) 13 0 u.2.2.1 (by omega) (by omega) (fun m hm => by omega)
        refine r8 (rF u F') _ _ e (fun m hm => ?_) ?_
        · obtain ⟨y1, y2⟩ := hF' m hm
          obtain ⟨x1, x2⟩ := hF0 m hm
          rw [e] at y2
          show F' m = F0 m
          rcases y1 with y | y
          · rcases x1 with x | x
            · rw [y, x]
            · exact absurd (y.symm.trans (y2.mpr (x2.mp x))) (by decide)
          · rw [y]
            exact (x2.mpr (y2.mp y)).symm
        · intro x ex
          rw [ex, nI_1]
          exact s8 _ Post K rfl (fun F => q F)
