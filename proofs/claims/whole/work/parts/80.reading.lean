/-! Reading an order: the text at a place, a number. -/
def cd (t : Nat → Int32) (l i : Nat) : Int32 := if i < l then t i else 0
def OT (t : Nat → Int32) (l i : Nat) (o : OS) : Prop := o.1 0 = nI l ∧ o.1 1 = nI i ∧ ∀ k, k < l → o.2 k = t k
def OE (o o' : OS) : Prop := o'.2 = o.2 ∧ ∀ k, k ≠ 1 → o'.1 k = o.1 k
def RT (t : Nat → Int32) (l i : Nat) (r : RS) : Prop := r.2.2.2 1 = nI l ∧ r.2.2.2 2 = nI i ∧ ∀ k, k < l → r.2.1 k = t k
def RE (r r' : RS) : Prop := r'.1 = r.1 ∧ r'.2.1 = r.2.1 ∧ ∀ k, k ≠ 2 → r'.2.2.2 k = r.2.2.2 k
theorem OE.refl (o : OS) : OE o o := ⟨rfl, fun _ _ => rfl⟩
theorem OE.trans {a b c : OS} (h : OE a b) (h' : OE b c) : OE a c := ⟨h'.1.trans h.1, fun k hk => (h'.2 k hk).trans (h.2 k hk)⟩
theorem RE.refl (o : RS) : RE o o := ⟨rfl, rfl, fun _ _ => rfl⟩
theorem RE.trans {a b c : RS} (h : RE a b) (h' : RE b c) : RE a c := ⟨h'.1.trans h.1, h'.2.1.trans h.2.1, fun k hk => (h'.2.2 k hk).trans (h.2.2 k hk)⟩
theorem OE.step (o : OS) (v : Int32) : OE o (oS o 1 v) := ⟨rfl, fun k hk => if_neg hk⟩
theorem RE.step (r : RS) (v : Int32) : RE r (rS r 2 v) := ⟨rfl, rfl, fun k hk => if_neg hk⟩
theorem OT.step {t : Nat → Int32} {l i : Nat} {o : OS} (h : OT t l i o) : OT t l (i + 1) (oS o 1 (o.1 1 + 1)) := by
  refine ⟨h.1, ?_, h.2.2⟩
  show o.1 1 + 1 = _
  rw [h.2.1, nI_1]
theorem RT.step {t : Nat → Int32} {l i : Nat} {r : RS} (h : RT t l i r) : RT t l (i + 1) (rS r 2 (r.2.2.2 2 + 1)) := by
  refine ⟨h.1, ?_, h.2.2⟩
  show r.2.2.2 2 + 1 = _
  rw [h.2.1, nI_1]
theorem cd_lt {t : Nat → Int32} {l i : Nat} (h : ¬ cd t l i = 0) : i < l := by
  rcases Nat.lt_or_ge i l with z | z
  · exact z
  · exact absurd (if_neg (by omega)) h
theorem k_next {t : Nat → Int32} {l i : Nat} {o : OS} {Post : Int32 → OS → Prop} (hl : l ≤ 100) (hi : i < 1000) (h : OT t l i o) (q : Post (cd t l i) o) : wp_Ord_next o Post := by
  unfold wp_Ord_next
  rw [h.1, h.2.1]
  unfold cd at q
  refine ⟨fun y => ?_, fun y => ?_⟩
  · rw [if_neg (fun z => absurd y (nI_ge z (by omega)))] at q
    exact q
  · have hi' : i < l := Nat.lt_of_not_le (fun z => y (nI_le z (by omega)))
    rw [if_pos hi', ← h.2.2 i hi'] at q
    rw [nI_clamp (by omega)]
    exact ⟨vp_in_nI (by omega) (by omega), q⟩
theorem t_code {t : Nat → Int32} {l i : Nat} {r : RS} {Post : Int32 → RS → Prop} (hl : l ≤ 100) (hi : i < 1000) (h : RT t l i r) (q : Post (cd t l i) r) : wp_Mod_code r Post := by
  unfold wp_Mod_code
  rw [h.1, h.2.1]
  unfold cd at q
  refine ⟨fun y => ?_, fun y => ?_⟩
  · rw [if_neg (fun z => absurd y (nI_ge z (by omega)))] at q
    exact q
  · have hi' : i < l := Nat.lt_of_not_le (fun z => y (nI_le z (by omega)))
    rw [if_pos hi', ← h.2.2 i hi'] at q
    rw [nI_clamp (by omega)]
    exact ⟨vp_in_nI (by omega) (by omega), q⟩
def dg (x : Int32) : Prop := 48 ≤ x.toInt ∧ x.toInt ≤ 57
theorem dgO {x : Int32} : pf_Ord_isDigit x = 0 ↔ ¬ dg x := by
  unfold pf_Ord_isDigit dg
  simp only [Int32.le_iff_toInt_le, show (48 : Int32).toInt = 48 from rfl, show (57 : Int32).toInt = 57 from rfl]
  by_cases h1 : 48 ≤ x.toInt
  · by_cases h2 : x.toInt ≤ 57
    · rw [if_pos h1, if_pos h2]
      exact ⟨fun q => absurd q (by decide), fun q => absurd ⟨h1, h2⟩ q⟩
    · rw [if_pos h1, if_neg h2]
      exact ⟨fun _ q => h2 q.2, fun _ => rfl⟩
  · rw [if_neg h1]
    exact ⟨fun _ q => h1 q.1, fun _ => rfl⟩
theorem dgM {x : Int32} : pf_Mod_in x 48 57 = 0 ↔ ¬ dg x := in15
theorem dg_of {x : Int32} (h : dg x) : ∃ d, d ≤ 9 ∧ x = nI (48 + d) ∧ x - 48 = nI d := by
  obtain ⟨n, hn, e⟩ := lit_of (k := x) (n := 57) (by omega) (by unfold dg at h; omega) h.2
  have h48 : 48 ≤ n := by
    have := h.1
    rw [e, nI_toInt (by omega)] at this
    omega
  refine ⟨n - 48, by omega, ?_, ?_⟩
  · rw [e]
    congr 1
    omega
  · rw [e]
    exact pk_sub h48
theorem dg_ne {x : Int32} (h : dg x) : ¬ x = 0 := fun e => by
  rw [e] at h
  exact absurd h.1 (by decide)
theorem ten_c (v d : Nat) : nI v * 10 + nI d = nI (10 * v + d) := by
  rw [show (10 : Int32) = nI 10 from rfl, pk_mul, nI_add]
  congr 1
  omega
theorem ten_r (v d : Nat) : 10 * nI v + nI (48 + d) - 48 = nI (10 * v + d) := by
  rw [show (10 : Int32) = nI 10 from rfl, pk_mul, nI_add, show (48 : Int32) = nI 48 from rfl, pk_sub (by omega)]
  congr 1
  omega
theorem nl_sim (t : Nat → Int32) (l : Nat) (hl : l ≤ 100) : ∀ n k v i, k + n = 3 → 1 ≤ k → 1 ≤ v → v < 10 ^ k → i ≤ l → ∃ v' i', i' ≤ l ∧ i ≤ i' ∧ v' < 1000 ∧
    (∀ m, n < m → ∀ (o : OS) (Post K : Int32 → OS → Prop), OT t l i o → (∀ o', OT t l i' o' → OE o o' → K (nI v') o') → wl_Ord_readNumber_38 Post K m (nI v) (nI k) o) ∧
    (∀ m, n < m → ∀ (r : RS) (Post : Int32 → RS → Prop) (K : Int32 → Int32 → RS → Prop), RT t l i r → (∀ r' k', RT t l i' r' → RE r r' → 1 ≤ k' → k' ≤ 3 → K (nI k') (nI v') r') → wl_Mod_number_4 Post K m (nI k) (nI v) r) := by
  intro n
  induction n with
  | zero =>
    intro k v i h1 h2 h3 h4 h5
    have hk : k = 3 := by omega
    subst hk
    refine ⟨v, i, h5, Nat.le_refl _, by omega, fun m hm o Post K hO q => ?_, fun m hm r Post K hR q => ?_⟩
    · obtain ⟨m, rfl⟩ : ∃ s, m = s + 1 := ⟨m - 1, by omega⟩
      unfold wl_Ord_readNumber_38
      exact ⟨fun _ => q o hO (OE.refl o), fun y => absurd (Int32.le_refl _) y⟩
    · obtain ⟨m, rfl⟩ : ∃ s, m = s + 1 := ⟨m - 1, by omega⟩
      unfold wl_Mod_number_4
      have := q r 3 hR (RE.refl r) (by omega) (by omega)
      exact t_code hl (by omega) hR ⟨fun _ => this, fun _ => ⟨fun _ => this, fun y => absurd (Int32.le_refl _) y⟩⟩
  | succ n ih =>
    intro k v i h1 h2 h3 h4 h5
    have n3 : ¬ (3 : Int32) ≤ nI k := nI_ge (a := k) (b := 3) (by omega) (by omega)
    have hv : v < 1000 := by
      have : k = 1 ∨ k = 2 := by omega
      rcases this with rfl | rfl <;> omega
    by_cases hd : dg (cd t l i)
    · obtain ⟨d, d1, d2, d3⟩ := dg_of hd
      have hil := cd_lt (dg_ne hd)
      have h4' : 10 * v + d < 10 ^ (k + 1) := by
        rw [Nat.pow_succ]
        omega
      obtain ⟨v', i', e1, e2, e3, e4, e5⟩ := ih (k + 1) (10 * v + d) (i + 1) (by omega) (by omega) (by omega) h4' (by omega)
      refine ⟨v', i', e1, by omega, e3, fun m hm o Post K hO q => ?_, fun m hm r Post K hR q => ?_⟩
      · obtain ⟨m, rfl⟩ : ∃ s, m = s + 1 := ⟨m - 1, by omega⟩
        unfold wl_Ord_readNumber_38
        refine ⟨fun y => absurd y n3, fun _ => k_next hl (by omega) hO ⟨fun y => absurd hd (dgO.mp y), fun _ => k_next hl (by omega) hO ?_⟩⟩
        intro x12 e12 u13 e13 x14 e14
        rw [e12, e13, e14, nI_1, d3, ten_c]
        exact e4 m (by omega) _ Post K hO.step (fun o' a b => q o' a ((OE.step o _).trans b))
      · obtain ⟨m, rfl⟩ : ∃ s, m = s + 1 := ⟨m - 1, by omega⟩
        unfold wl_Mod_number_4
        refine t_code hl (by omega) hR ⟨fun y => absurd hd (dgM.mp y), fun _ => ⟨fun y => absurd y n3, fun _ => ⟨fun y => absurd y (nI_ne0 (by omega) (by omega)), fun _ => ⟨fun y => absurd y (nI_ge (a := 0) (b := v) (by omega) (by omega)), fun _ => t_code hl (by omega) hR ?_⟩⟩⟩⟩
        intro x12 e12 u13 e13 x14 e14
        rw [e12, e13, e14, nI_1, d2, ten_r]
        exact e5 m (by omega) _ Post K hR.step (fun r' k' a b => q r' k' a ((RE.step r _).trans b))
    · refine ⟨v, i, h5, Nat.le_refl _, hv, fun m hm o Post K hO q => ?_, fun m hm r Post K hR q => ?_⟩
      · obtain ⟨m, rfl⟩ : ∃ s, m = s + 1 := ⟨m - 1, by omega⟩
        unfold wl_Ord_readNumber_38
        exact ⟨fun y => absurd y n3, fun _ => k_next hl (by omega) hO ⟨fun _ => q o hO (OE.refl o), fun y => absurd (dgO.mpr hd) y⟩⟩
      · obtain ⟨m, rfl⟩ : ∃ s, m = s + 1 := ⟨m - 1, by omega⟩
        unfold wl_Mod_number_4
        exact t_code hl (by omega) hR ⟨fun _ => q r k hR (RE.refl r) h2 (by omega), fun y => absurd (dgM.mpr hd) y⟩
/-- a number, on both sides -/
theorem nu_sim (t : Nat → Int32) (l : Nat) (hl : l ≤ 100) (i : Nat) (hi : i ≤ l) : ∃ (x : Int32) (i' : Nat), i' ≤ l ∧ i ≤ i' ∧ (x = -1 ∨ (∃ v, v < 1000 ∧ x = nI v) ∧ i < i') ∧
    (∀ (o : OS) (Post : Int32 → OS → Prop), OT t l i o → (∀ o', OT t l i' o' → OE o o' → Post x o') → wp_Ord_readNumber o Post) ∧
    (∀ (r : RS) (Post : Int32 → RS → Prop), RT t l i r → (∀ r', RT t l i' r' → RE r r' → Post x r') → wp_Mod_number r Post) := by
  by_cases hd : dg (cd t l i)
  · obtain ⟨d, d1, d2, d3⟩ := dg_of hd
    have hil := cd_lt (dg_ne hd)
    have z0 : ¬ (3 : Int32) ≤ 0 := by decide
    have t0 : (10 : Int32) * 0 + nI (48 + d) - 48 = nI d := by
      have := ten_r 0 d
      rw [show 10 * 0 + d = d by omega] at this
      exact this
    by_cases d0 : d = 0
    · subst d0
      refine ⟨0, i + 1, by omega, by omega, Or.inr ⟨⟨0, by omega, rfl⟩, by omega⟩, fun o Post hO q => ?_, fun r Post hR q => ?_⟩
      · unfold wp_Ord_readNumber
        refine k_next hl (by omega) hO ⟨fun y => absurd hd (dgO.mp y), fun _ => k_next hl (by omega) hO ?_⟩
        intro x5 e5 u6 e6
        rw [d3] at e5
        rw [e5, e6]
        exact ⟨fun _ => q _ hO.step (OE.step o _), fun y => absurd rfl y⟩
      · unfold wp_Mod_number
        refine ⟨2, ?_⟩
        unfold wl_Mod_number_4
        refine t_code hl (by omega) hR ⟨fun y => absurd hd (dgM.mp y), fun _ => ⟨fun y => absurd y z0, fun _ => ⟨fun _ => t_code hl (by omega) hR ?_, fun y => absurd rfl y⟩⟩⟩
        intro x6 e6 u7 e7 x8 e8
        rw [d2, t0] at e6
        rw [e6, e7, e8]
        have fin : ((nI 0 + 1 = 0 → Post (-1) (rS r 2 (r.2.2.2 2 + 1))) ∧ (¬ nI 0 + 1 = 0 → Post (nI 0) (rS r 2 (r.2.2.2 2 + 1)))) := ⟨fun y => absurd y (by decide), fun _ => q _ hR.step (RE.step r _)⟩
        unfold wl_Mod_number_4
        exact t_code hl (by omega) hR.step ⟨fun _ => fin, fun _ => ⟨fun _ => fin, fun _ => ⟨fun y => absurd y (by decide), fun _ => ⟨fun _ => fin, fun y => absurd (Int32.le_refl _) y⟩⟩⟩⟩
    · obtain ⟨v', i', e1, e2, e3, e4, e5⟩ := nl_sim t l hl 2 1 d (i + 1) (by omega) (by omega) (by omega) (by omega) (by omega)
      refine ⟨nI v', i', e1, by omega, Or.inr ⟨⟨v', e3, rfl⟩, by omega⟩, fun o Post hO q => ?_, fun r Post hR q => ?_⟩
      · unfold wp_Ord_readNumber
        refine k_next hl (by omega) hO ⟨fun y => absurd hd (dgO.mp y), fun _ => k_next hl (by omega) hO ?_⟩
        intro x5 ex5 u6 e6
        rw [d3] at ex5
        rw [ex5, e6]
        exact ⟨fun y => absurd y (nI_ne0 (by omega) (by omega)), fun _ => ⟨3, e4 3 (by omega) _ _ _ hO.step (fun o' a b => q o' a ((OE.step o _).trans b))⟩⟩
      · unfold wp_Mod_number
        refine ⟨4, ?_⟩
        unfold wl_Mod_number_4
        refine t_code hl (by omega) hR ⟨fun y => absurd hd (dgM.mp y), fun _ => ⟨fun y => absurd y z0, fun _ => ⟨fun _ => t_code hl (by omega) hR ?_, fun y => absurd rfl y⟩⟩⟩
        intro x6 e6 u7 e7 x8 e8
        rw [d2, t0] at e6
        rw [e6, e7, e8]
        exact e5 3 (by omega) _ _ _ hR.step (fun r' k' a b c d => ⟨fun y => absurd y (nI_ne0 (by omega) (by omega)), fun _ => q r' a ((RE.step r _).trans b)⟩)
  · refine ⟨-1, i, hi, Nat.le_refl _, Or.inl rfl, fun o Post hO q => ?_, fun r Post hR q => ?_⟩
    · unfold wp_Ord_readNumber
      exact k_next hl (by omega) hO ⟨fun _ => q o hO (OE.refl o), fun y => absurd (dgO.mpr hd) y⟩
    · unfold wp_Mod_number
      refine ⟨1, ?_⟩
      unfold wl_Mod_number_4
      exact t_code hl (by omega) hR ⟨fun _ => ⟨fun _ => q r hR (RE.refl r), fun y => absurd rfl y⟩, fun y => absurd (dgM.mpr hd) y⟩
