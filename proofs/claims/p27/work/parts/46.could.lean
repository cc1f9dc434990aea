/-! What could be: would, bestKind. -/
def setT (z : ZZ) (t : CS) : ZZ := (z.1, z.2.1, z.2.2.1, z.2.2.2.1, z.2.2.2.2.1, z.2.2.2.2.2.1, z.2.2.2.2.2.2.1, z.2.2.2.2.2.2.2.1, t)
theorem ZI_T {z : ZZ} {t : CS} (h : ZI z) (ht : Can t) : ZI (setT z t) := ⟨h.1, h.2.1, h.2.2.1, h.2.2.2.1, ht⟩
theorem would_in {z : ZZ} {w N j i : Nat} {Post : Int32 → ZZ → Prop} (hG : InvG z.1 w N) (hj : j < N) (hi : i ≤ 2) (h : (z.1.1 1 = 0 → (nI i = 0 → wp_Clb_bonusOf z.1 (nI j) (fun x v => Post x (v, z.2.1, z.2.2.1, z.2.2.2.1, z.2.2.2.2.1, z.2.2.2.2.2.1, z.2.2.2.2.2.2.1, z.2.2.2.2.2.2.2.1, z.2.2.2.2.2.2.2.2))) ∧ (¬ nI i = 0 → wp_Clb_copyFrom (z.2.2.2.2.2.2.2.2, z.1) (fun v => wp_Clb_settleAll v.1 (fun _ u => (nI i = 1 → vp_in (nI j) 12 ∧ Post (u.2.1 11 j) (v.2, z.2.1, z.2.2.1, z.2.2.2.1, z.2.2.2.2.1, z.2.2.2.2.2.1, z.2.2.2.2.2.2.1, z.2.2.2.2.2.2.2.1, u)) ∧ (¬ nI i = 1 → vp_in (nI j) 12 ∧ vp_in (nI j) 12 ∧ Post (u.2.1 4 j - v.2.2.1 4 j) (v.2, z.2.1, z.2.2.1, z.2.2.2.1, z.2.2.2.2.1, z.2.2.2.2.2.1, z.2.2.2.2.2.2.1, z.2.2.2.2.2.2.2.1, u)))))) ∧ (¬ z.1.1 1 = 0 → Post (-2) z)) : wp_Ham_would z (nI j) (nI i) Post := by
  have hN := hG.2.1
  have hc4 := hG.2.2.2.1
  have hM := isM_nI hj hN
  unfold wp_Ham_would
  rw [nI_clamp (show j < 2 ^ 31 by omega)]
  refine k_exists hc4 hN (fun _ => ⟨fun q => absurd q (by decide), fun _ => ⟨fun q => absurd q (Int32.not_lt.mpr (nI_nn (by omega))), fun _ => ⟨fun _ => h, fun q => absurd (nI_le (b := 2) hi (by omega)) q⟩⟩⟩) (fun q => absurd hM q)
theorem o_would0 {z : ZZ} {w N j : Nat} {Post : Int32 → ZZ → Prop} (hI : Inv z.1 w N) (hu : z.1.1 1 = 0) (hj : j < N) (h : Post (bon z.1 N j) z) : wp_Ham_would z (nI j) 0 Post := by
  have hG := hI.1.2.1
  exact would_in (i := 0) hG hj (by omega) ⟨fun _ => ⟨fun _ => k_bonus hG.2.2.2.1 hG.2.1 hG.1 hI.1.2.2.1 hj h, fun q => absurd rfl q⟩, fun q => absurd hu q⟩
theorem o_would1 {z : ZZ} {w N j : Nat} {x : Int32} {c' : CS} {Post : Int32 → ZZ → Prop} (hI : Inv z.1 w N) (hu : z.1.1 1 = 0) (hj : j < N) (hc : Can z.2.2.2.2.2.2.2.2) (hw : ∀ P : Int32 → CS → Prop, P x c' → wp_Clb_settleAll z.1 P) (h : Post (c'.2.1 11 j) (setT z c')) : wp_Ham_would z (nI j) 1 Post := by
  have hG := hI.1.2.1
  have hin : vp_in (nI j) 12 := vp_in_nI (by have := hG.2.1; omega) (by omega)
  exact would_in (i := 1) hG hj (by omega) ⟨fun _ => ⟨fun q => absurd q (by decide), fun _ => t_copyC hc hI.1.1 hI.flag (hw _ ⟨fun _ => ⟨hin, h⟩, fun q => absurd rfl q⟩)⟩, fun q => absurd hu q⟩
theorem o_would2 {z : ZZ} {w N j : Nat} {x : Int32} {c' : CS} {Post : Int32 → ZZ → Prop} (hI : Inv z.1 w N) (hu : z.1.1 1 = 0) (hj : j < N) (hc : Can z.2.2.2.2.2.2.2.2) (hw : ∀ P : Int32 → CS → Prop, P x c' → wp_Clb_settleAll z.1 P) (h : Post (c'.2.1 4 j - z.1.2.1 4 j) (setT z c')) : wp_Ham_would z (nI j) 2 Post := by
  have hG := hI.1.2.1
  have hin : vp_in (nI j) 12 := vp_in_nI (by have := hG.2.1; omega) (by omega)
  exact would_in (i := 2) hG hj (by omega) ⟨fun _ => ⟨fun q => absurd q (by decide), fun _ => t_copyC hc hI.1.1 hI.flag (hw _ ⟨fun q => absurd q (by decide), fun _ => ⟨hin, hin, h⟩⟩)⟩, fun q => absurd hu q⟩
theorem o_would_s {z : ZZ} {w N j i : Nat} {Post : Int32 → ZZ → Prop} (hG : InvG z.1 w N) (hu : ¬ z.1.1 1 = 0) (hj : j < N) (hi : i ≤ 2) (h : Post (-2) z) : wp_Ham_would z (nI j) (nI i) Post :=
  would_in hG hj hi ⟨fun q => absurd q hu, fun _ => h⟩
theorem o_would_n {z : ZZ} {w N : Nat} {i : Int32} {Post : Int32 → ZZ → Prop} (hG : InvG z.1 w N) (hN : N = 0) (h : Post (-1) z) : wp_Ham_would z 0 i Post := by
  unfold wp_Ham_would
  refine k_exists hG.2.2.2.1 hG.2.1 (fun q => ?_) (fun _ => ⟨fun _ => h, fun q => absurd rfl q⟩)
  unfold isM at q
  have := q.2
  rw [hN] at this
  exact absurd this (by decide)
theorem o_would_3 {z : ZZ} {w N : Nat} {Post : Int32 → ZZ → Prop} (hG : InvG z.1 w N) (h : Post (-1) z) : wp_Ham_would z 0 3 Post := by
  unfold wp_Ham_would
  exact k_exists hG.2.2.2.1 hG.2.1 (fun _ => ⟨fun q => absurd q (by decide), fun _ => ⟨fun q => absurd q (by decide), fun _ => ⟨fun q => absurd q (by decide), fun _ => h⟩⟩⟩) (fun _ => ⟨fun _ => h, fun q => absurd rfl q⟩)
/-- what comes of choosing a kind and settling -/
def Out (c : CS) (j k : Nat) (c1 c2 : CS) (x1 x2 : Int32) : Prop := (∀ P : Int32 → CS → Prop, P x1 c1 → wp_Clb_chooseKind c (nI j) (nI k) P) ∧ (∀ P : Int32 → CS → Prop, P x2 c2 → wp_Clb_settleAll c1 P) ∧ Can c2
theorem o_get {z : ZZ} {w N j k : Nat} {c1 c2 : CS} {x1 x2 : Int32} {Post : Int32 → ZZ → Prop} (hI : Inv z.1 w N) (hj : j < N) (hc : Can z.2.2.2.2.2.2.2.2) (ho : Out z.1 j k c1 c2 x1 x2) (h1 : c2.2.1 11 j = nI k → Post 1 (setT z c2)) (h0 : ¬ c2.2.1 11 j = nI k → Post 0 (setT z c2)) : wp_Ham_wouldGet z (nI j) (nI k) Post := by
  have hG := hI.1.2.1
  have hin : vp_in (nI j) 12 := vp_in_nI (by have := hG.2.1; omega) (by omega)
  unfold wp_Ham_wouldGet
  rw [nI_clamp (show j < 2 ^ 31 by have := hG.2.1; omega)]
  exact t_copyC hc hI.1.1 hI.flag (ho.1 _ (ho.2.1 _ ⟨hin, h1, h0⟩))
def Gt (F : Nat → CS) (j k : Nat) : Prop := (F k).2.1 11 j = nI k
def Best (c : CS) (F : Nat → CS) (j i : Nat) (b : Int32) : Prop := (b = -9 ∧ ∀ k, k < i → ¬ Gt F j k) ∨ ∃ m, m < i ∧ b = nI m ∧ Gt F j m ∧ ∀ k, k < i → Gt F j k → c.2.1 7 k ≤ c.2.1 7 m ∧ (c.2.1 7 k = c.2.1 7 m → m ≤ k)
theorem best_loop {z : ZZ} {w N j : Nat} {F1 F2 : Nat → CS} {X1 X2 : Nat → Int32} {Post K : Int32 → ZZ → Prop} (hI : Inv z.1 w N) (hj : j < N) (ho : ∀ k, k < 4 → Out z.1 j k (F1 k) (F2 k) (X1 k) (X2 k)) (hK : ∀ b t, Can t → Best z.1 F2 j 4 b → K b (setT z t)) : ∀ (n i : Nat) (b : Int32) (t : CS), Can t → Best z.1 F2 j i b → i ≤ 4 → 4 - i < n → wl_Ham_bestKind_37 Post K n (nI j) b (nI i) (setT z t) := by
  intro n
  induction n with
  | zero => intro i b t _ _ h1 h2; omega
  | succ n ih =>
    intro i b t ht hb h1 h2
    unfold wl_Ham_bestKind_37
    refine ⟨fun q => ?_, fun q => ?_⟩
    · have := ge_of (L := 4) (by omega) h1 q
      subst this
      exact hK b t ht hb
    · have hi := lt_of (L := 4) (by omega) h1 q
      have hik : vp_in (nI i) 4 := vp_in_nI hi (by omega)
      have hc2 := (ho i hi).2.2
      have nx : ∀ (b' : Int32) (t' : CS), Can t' → Best z.1 F2 j (i + 1) b' → ∀ x : Int32, x = nI i + 1 → wl_Ham_bestKind_37 Post K n (nI j) b' x (setT z t') := fun b' t' h1' h2' x ex => by
        rw [ex, nI_1]
        exact ih (i + 1) b' t' h1' h2' (by omega) (by omega)
      rcases hb with ⟨b1, b2⟩ | ⟨m, m1, m2, m3, m4⟩
      · refine ⟨fun _ => o_get (z := setT z t) hI hj ht (ho i hi) (fun g => ⟨fun y => absurd y (by decide), fun _ => ?_⟩) (fun g => ⟨fun _ => ?_, fun y => absurd rfl y⟩), fun y => absurd b1 y⟩
        · refine nx (nI i) (F2 i) hc2 (Or.inr ⟨i, by omega, rfl, g, fun k hk gk => ?_⟩)
          by_cases e : k = i
          · rw [e]
            exact ⟨Int32.le_refl _, fun _ => Nat.le_refl _⟩
          · exact absurd gk (b2 k (by omega))
        · refine nx b (F2 i) hc2 (Or.inl ⟨b1, fun k hk => ?_⟩)
          by_cases e : k = i
          · rw [e]
            exact g
          · exact b2 k (by omega)
      · have hbm : ¬ b = -9 := fun y => neg9_ne' (m2.symm.trans y)
        have hbin : vp_in b 4 := by rw [m2]; exact vp_in_nI (by omega) (by omega)
        have stay : ((F2 i).2.1 11 j = nI i → z.1.2.1 7 i ≤ z.1.2.1 7 m) → Best z.1 F2 j (i + 1) b := fun hle => Or.inr ⟨m, by omega, m2, m3, fun k hk gk => by
          by_cases e : k = i
          · subst e
            exact ⟨hle gk, fun _ => by omega⟩
          · exact m4 k (by omega) gk⟩
        refine ⟨fun y => absurd y hbm, fun _ => ⟨hik, hbin, ?_⟩⟩
        rw [m2, nI_clamp (show i < 2 ^ 31 by omega), nI_clamp (show m < 2 ^ 31 by omega), ← m2]
        refine ⟨fun y => nx b t ht (stay (fun _ => y)), fun y => o_get (z := setT z t) hI hj ht (ho i hi) (fun g => ⟨fun y => absurd y (by decide), fun _ => ?_⟩) (fun g => ⟨fun _ => nx b (F2 i) hc2 (stay (fun g' => absurd g' g)), fun y => absurd rfl y⟩)⟩
        refine nx (nI i) (F2 i) hc2 (Or.inr ⟨i, by omega, rfl, g, fun k hk gk => ?_⟩)
        have y : ¬ z.1.2.1 7 i ≤ z.1.2.1 7 m := y
        have y' : z.1.2.1 7 m < z.1.2.1 7 i := Int32.not_le.mp y
        by_cases e : k = i
        · rw [e]
          exact ⟨Int32.le_refl _, fun _ => Nat.le_refl _⟩
        · obtain ⟨l1, l2⟩ := m4 k (by omega) gk
          have lt : z.1.2.1 7 k < z.1.2.1 7 i := Int32.lt_of_le_of_lt l1 y'
          exact ⟨Int32.le_of_lt lt, fun ee => by
            rw [ee] at lt
            exact absurd (Int32.lt_iff_toInt_lt.mp lt) (by omega)⟩
theorem o_best {z : ZZ} {w N j : Nat} {F1 F2 : Nat → CS} {X1 X2 : Nat → Int32} {Post : Int32 → ZZ → Prop} (hI : Inv z.1 w N) (hu : z.1.1 1 = 0) (hj : j < N) (hc : Can z.2.2.2.2.2.2.2.2) (ho : ∀ k, k < 4 → Out z.1 j k (F1 k) (F2 k) (X1 k) (X2 k)) (hK : ∀ b t, Can t → Best z.1 F2 j 4 b → Post b (setT z t)) : wp_Ham_bestKind z (nI j) Post := by
  have hG := hI.1.2.1
  unfold wp_Ham_bestKind
  refine k_exists hG.2.2.2.1 hG.2.1 (fun _ => ⟨fun q => absurd q (by decide), fun _ => ⟨fun _ => ⟨5, best_loop (z := z) hI hj ho hK 5 0 (-9) z.2.2.2.2.2.2.2.2 hc (Or.inl ⟨rfl, fun k hk => absurd hk (Nat.not_lt_zero k)⟩) (by omega) (by omega)⟩, fun q => absurd hu q⟩⟩) (fun q => absurd (isM_nI hj hG.2.1) q)
theorem o_best_s {z : ZZ} {w N j : Nat} {Post : Int32 → ZZ → Prop} (hG : InvG z.1 w N) (hu : ¬ z.1.1 1 = 0) (hj : j < N) (h : Post (-2) z) : wp_Ham_bestKind z (nI j) Post := by
  unfold wp_Ham_bestKind
  exact k_exists hG.2.2.2.1 hG.2.1 (fun _ => ⟨fun q => absurd q (by decide), fun _ => ⟨fun q => absurd q hu, fun _ => h⟩⟩) (fun q => absurd (isM_nI hj hG.2.1) q)
theorem o_best_n {z : ZZ} {w N : Nat} {Post : Int32 → ZZ → Prop} (hG : InvG z.1 w N) (hN : N = 0) (h : Post (-1) z) : wp_Ham_bestKind z 0 Post := by
  unfold wp_Ham_bestKind
  refine k_exists hG.2.2.2.1 hG.2.1 (fun q => ?_) (fun _ => ⟨fun _ => h, fun q => absurd rfl q⟩)
  unfold isM at q
  have := q.2
  rw [hN] at this
  exact absurd this (by decide)
