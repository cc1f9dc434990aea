/-! Joining, kinds, a week. -/
theorem join_inv {c : CS} {w N : Nat} (h : InvA c w N) (hN : N < 12) : InvA (joinC c N) w (N + 1) := by
  obtain ⟨hB, ⟨a1, a2, a3, a4⟩, hu, hU1, P, p1, p2⟩ := h
  obtain ⟨hC, hG, hM, hO, hQ⟩ := id hB
  obtain ⟨o1, o2, o3, o4, o5, o6, o7⟩ := hO N (Nat.le_refl N) hN
  have ar : ∀ a, a ≠ 3 → (joinC c N).2.1 a = c.2.1 a := fun a ha => if_neg ha
  refine ⟨Base_of hB (Can_cS (Can_up (k := 3) hC (by omega) hN) (by omega)) ?_ (fun m hm => InvM_eq (hM m hm) (fun a a3 _ _ _ => by rw [ar a a3]) rfl) (fun m h1 h2 => InvO_eq (hO m (by omega) h2) (fun a a3 _ _ => by rw [ar a a3]) rfl) (by omega) (fun _ _ => rfl) (fun _ _ => rfl) (fun _ _ => rfl) (fun _ _ => rfl), ⟨?_, a2, ?_, ?_⟩, hu, hU1, P, p1, p2⟩
  · obtain ⟨g1, g2, g3, g4, g5⟩ := hG
    refine ⟨g1, by omega, g3, ?_, g5⟩
    show c.1 4 + 1 = _
    rw [g4, nI_1]
  · show c.1 5 = 10 * (bsum (c.2.1 0) N + c.2.1 0 N) + c.1 6
    rw [o1, Int32.add_zero]
    exact a1
  · show c.1 8 = bsum (c.2.1 4) N + c.2.1 4 N
    rw [o3, Int32.add_zero]
    exact a3
  · show c.1 2 = bsum (gotF c) N + gotF c N
    have : gotF c N = 0 := by
      unfold gotF
      rw [o6]
      decide
    rw [this, Int32.add_zero]
    exact a4
theorem op_join {c : CS} {w N : Nat} (h : Inv c w N) : Op (fun P => wp_Clb_addMember c P) c := by
  have hG := h.1.2.1
  have hN := hG.2.1
  have hc4 := hG.2.2.2.1
  by_cases hu : c.1 1 = 0
  · by_cases hN12 : N < 12
    · refine Or.inr ⟨nI N, joinC c N, w, N + 1, nI_nn (by omega), (join_inv (h.a hu) hN12).inv, fun Post q => ?_⟩
      show wp_Clb_addMember c Post
      unfold wp_Clb_addMember
      rw [hc4]
      simp only [forall_eq, nI_clamp (show N < 2 ^ 31 by omega)]
      exact ⟨fun _ => ⟨fun _ => ⟨vp_in_nI hN12 (by omega), q⟩, fun z => absurd (nI_lt (b := 12) hN12 (by omega)) z⟩, fun z => absurd hu z⟩
    · refine Or.inl ⟨-3, by decide, fun Post q => ?_⟩
      show wp_Clb_addMember c Post
      unfold wp_Clb_addMember
      rw [hc4]
      refine ⟨fun _ => ⟨fun z => absurd z (Int32.not_lt.mpr (nI_le (a := 12) (by omega) (by omega))), fun _ => q⟩, fun z => absurd hu z⟩
  · refine Or.inl ⟨-2, by decide, fun Post q => ?_⟩
    show wp_Clb_addMember c Post
    unfold wp_Clb_addMember
    exact ⟨fun z => absurd z hu, fun _ => q⟩
def vHam (p1 p2 p3 : Int32) : Prop := isK p1 ∧ (1 ≤ p2.toInt ∧ p2.toInt ≤ 200) ∧ 0 ≤ p3.toInt ∧ p3.toInt ≤ 9
theorem k_change {c : CS} {p1 p2 p3 : Int32} {Post : Int32 → CS → Prop} (he : ¬ vHam p1 p2 p3 → Post (-1) c) (h2 : vHam p1 p2 p3 → ¬ c.1 1 = 0 → Post (-2) c) (h0 : ∀ k, k < 4 → p1 = nI k → vHam p1 p2 p3 → c.1 1 = 0 → Post (c.2.1 7 k) (hamC c k p2 p3)) : wp_Clb_changeKind c p1 p2 p3 Post := by
  have l1 : p2 < 1 ↔ p2.toInt < 1 := Int32.lt_iff_toInt_lt
  have l2 : 200 < p2 ↔ 200 < p2.toInt := Int32.lt_iff_toInt_lt
  have l3 : p3 < 0 ↔ p3.toInt < 0 := Int32.lt_iff_toInt_lt
  have l4 : 9 < p3 ↔ 9 < p3.toInt := Int32.lt_iff_toInt_lt
  unfold wp_Clb_changeKind
  rw [l1, l2, l3, l4]
  have e1 : p2.toInt < 1 → Post (-1) c := fun a => he (fun z => by have := z.2.1.1; omega)
  have e2 : 200 < p2.toInt → Post (-1) c := fun a => he (fun z => by have := z.2.1.2; omega)
  have e3 : p3.toInt < 0 → Post (-1) c := fun a => he (fun z => by have := z.2.2.1; omega)
  have e4 : 9 < p3.toInt → Post (-1) c := fun a => he (fun z => by have := z.2.2.2; omega)
  refine ⟨fun a => ⟨fun b => ⟨fun _ => e1 a, fun _ => e1 a⟩, fun b => ⟨fun d => ⟨fun _ => e1 a, fun _ => e1 a⟩, fun d => ⟨fun _ => e1 a, fun _ => e1 a⟩⟩⟩, fun a => ⟨fun a2 => ⟨fun b => ⟨fun _ => e2 a2, fun _ => e2 a2⟩, fun b => ⟨fun d => ⟨fun _ => e2 a2, fun _ => e2 a2⟩, fun d => ⟨fun _ => e2 a2, fun _ => e2 a2⟩⟩⟩, fun a2 => ⟨fun b => ⟨fun _ => e3 b, fun _ => e3 b⟩, fun b => ⟨fun d => ⟨fun _ => e4 d, fun _ => e4 d⟩, fun d => ⟨fun y => he (fun z => hamK.mp y z.1), fun y => ?_⟩⟩⟩⟩⟩
  have hK : isK p1 := Classical.byContradiction (fun z => y (hamK.mpr z))
  have hv : vHam p1 p2 p3 := ⟨hK, ⟨by omega, by omega⟩, by omega, by omega⟩
  obtain ⟨k, hk, rfl⟩ := isK_of hK
  have hik : vp_in (nI k) 4 := vp_in_nI hk (by omega)
  simp only [forall_eq, nI_clamp (show k < 2 ^ 31 by omega)]
  exact ⟨fun z => ⟨hik, hik, hik, h0 k hk rfl hv z⟩, fun z => h2 hv z⟩
theorem ham_inv {c : CS} {w N k p s : Nat} (h : InvA c w N) (hk : k < 4) (hp : 1 ≤ p) (hp2 : p ≤ 200) (hs : s ≤ 9) : InvA (hamC c k (nI p) (nI s)) w N := by
  obtain ⟨hB, hA, hu, hU⟩ := h
  obtain ⟨hC, hG, hM, hO, hQ⟩ := hB
  have ar : ∀ a, a ≠ 7 → a ≠ 8 → (hamC c k (nI p) (nI s)).2.1 a = c.2.1 a := fun a a7 a8 => by
    show (if a = 8 then _ else if a = 7 then _ else c.2.1 a) = _
    rw [if_neg a8, if_neg a7]
  have c7 : ∀ q, (hamC c k (nI p) (nI s)).2.1 7 q = if q = k then nI p else c.2.1 7 q := fun _ => rfl
  have c8 : ∀ q, (hamC c k (nI p) (nI s)).2.1 8 q = if q = k then nI s else c.2.1 8 q := fun _ => rfl
  refine ⟨⟨Can_up (k := 8) (Can_up (k := 7) hC (by omega) (show k < 4 by omega)) (by omega) (show k < 4 by omega), InvG_eq hG rfl rfl rfl, fun m hm => InvM_eq (hM m hm) (fun a _ _ a7 a8 => by rw [ar a a7 a8]) rfl, fun m h1 h2 => InvO_eq (hO m h1 h2) (fun a _ a7 a8 => by rw [ar a a7 a8]) rfl, fun q hq => ⟨?_, InvR_eq (hQ q hq).2 (Nat.le_refl N) hG.2.1 (fun _ _ => rfl) (fun _ _ => rfl)⟩⟩, hA, hu, hU⟩
  have kq : kct (hamC c k (nI p) (nI s)) q = kct c q := rfl
  unfold InvK
  rw [c7, c8, kq]
  by_cases e : q = k
  · rw [if_pos e, if_pos e]
    have := fb_ct_le (fun m => decide (c.2.1 9 m = nI q ∧ c.2.1 10 m = 0)) 12
    exact ⟨⟨p, hp, hp2, rfl⟩, s, rfl, by unfold kct; omega⟩
  · rw [if_neg e, if_neg e]
    exact (hQ q hq).1
theorem op_setHamper {c : CS} {w N : Nat} (h : Inv c w N) (p1 p2 p3 : Int32) : Op (fun P => wp_Clb_changeKind c p1 p2 p3 P) c := by
  by_cases hv : vHam p1 p2 p3
  · by_cases hu : c.1 1 = 0
    · obtain ⟨k, hk, ek⟩ := isK_of hv.1
      obtain ⟨p, hp, ep⟩ := lit_of (n := 200) (by omega) (by have := hv.2.1.1; omega) hv.2.1.2
      obtain ⟨s, hs, es⟩ := lit_of (n := 9) (by omega) hv.2.2.1 hv.2.2.2
      have hp1 : 1 ≤ p := by
        have := hv.2.1.1
        rw [ep, nI_toInt (by omega)] at this
        omega
      have hr := ham_inv (h.a hu) hk hp1 hp hs
      rw [← ep, ← es] at hr
      obtain ⟨q, q1, q2, q3⟩ := (h.1.2.2.2.2 k hk).1.1
      refine Or.inr ⟨c.2.1 7 k, hamC c k p2 p3, w, N, by rw [q3]; exact nI_nn (by omega), hr.inv, fun Post q => k_change (fun z => absurd hv z) (fun _ z => absurd hu z) (fun k' hk' ek' _ _ => ?_)⟩
      have : k' = k := (nI_eq (by omega) (by omega)).mp (ek'.symm.trans ek)
      subst this
      exact q
    · exact Or.inl ⟨-2, by decide, fun Post q => k_change (fun z => absurd hv z) (fun _ _ => q) (fun _ _ _ _ z => absurd z hu)⟩
  · exact Or.inl ⟨-1, by decide, fun Post q => k_change (fun _ => q) (fun z => absurd z hv) (fun _ _ _ z => absurd z hv)⟩
theorem wk_inv {c : CS} {w N : Nat} (h : InvA c w N) (hw : w < 60) : InvA (cS c 0 (c.1 0 + 1)) (w + 1) N := by
  obtain ⟨hB, hA, hu, hU1, P, p1, p2⟩ := h
  obtain ⟨hC, hG, hM, hO, hQ⟩ := id hB
  have wk : ∀ m, wk5 (c.2.2 m) w ≤ wk5 (c.2.2 m) (w + 1) := fun m => by
    unfold wk5
    split <;> split <;> omega
  refine ⟨Base_of hB (Can_cS hC (by omega)) ?_ (fun m hm => ?_) hO (Nat.le_refl N) (fun _ _ => rfl) (fun _ _ => rfl) (fun _ _ => rfl) (fun _ _ => rfl), hA, hu, hU1, P, p1, ?_⟩
  · obtain ⟨g1, g2, g3, g4, g5⟩ := hG
    refine ⟨by omega, g2, ?_, g4, g5⟩
    show c.1 0 + 1 = _
    rw [g3, nI_1]
  · obtain ⟨⟨m1, m2⟩, m3, m4, m5, m6, m7, m8⟩ := hM m hm
    refine ⟨⟨m1, Nat.le_trans m2 (wk m)⟩, m3, fun z => (m4 z).elim (fun q hq => ⟨q, by omega, hq.2⟩), m5, m6, m7, ?_⟩
    rcases m8 with z | ⟨q, z1, z2⟩
    · exact Or.inl z
    · exact Or.inr ⟨q, by omega, z2⟩
  · have : capN c w ≤ nsum (fun m => 10 * wk5 (c.2.2 m) (w + 1)) 12 := nsum_le 12 (fun m _ => by have := wk m; show 10 * _ ≤ 10 * _; omega)
    show 10 * nsum (nst c) 12 + P ≤ nsum (fun m => 10 * wk5 (c.2.2 m) (w + 1)) 12
    omega
def repC (c : CS) (m : Nat) : CS := cA (cS (cA c 0 (upd (c.2.1 0) m (c.2.1 0 m - c.2.1 0 m / 10))) 6 (c.1 6 + c.2.1 0 m / 10 * 10)) 1 (upd (c.2.1 1) m 0)
theorem rep_o {c : CS} {j a m : Nat} (h : m ≠ j) : (repC c j).2.1 a m = c.2.1 a m :=
  (cA_o (c := cS (cA c 0 (upd (c.2.1 0) j (c.2.1 0 j - c.2.1 0 j / 10))) 6 (c.1 6 + c.2.1 0 j / 10 * 10)) (k := 1) h).trans (cA_o (c := c) (k := 0) h)
theorem rep_inv {c : CS} {w N j : Nat} (h : InvA c w N) (hj : j < N) : InvA (repC c j) w N := by
  obtain ⟨hB, ⟨a1, a2, a3, a4⟩, hu, hU1, P, p1, p2⟩ := h
  obtain ⟨hC, hG, hM, hO, hQ⟩ := id hB
  have hw := hG.1
  have hN := hG.2.1
  have hj12 : j < 12 := by omega
  obtain ⟨⟨m1, m2⟩, m3, m4, m5, m6, m7, m8⟩ := hM j hj12
  have hle := wk5_le (g := c.2.2 j) hw
  have ed : c.2.1 0 j / 10 = nI (nst c j / 10) := by
    rw [m1, show (10 : Int32) = nI 10 from rfl, nI_div (by omega) (by omega)]
  have e0 : (repC c j).2.1 0 j = nI (nst c j - nst c j / 10) := by
    show upd (c.2.1 0) j (c.2.1 0 j - c.2.1 0 j / 10) j = _
    rw [upd_s, ed, m1, pk_sub (by omega)]
  have n0 : nst (repC c j) j = nst c j - nst c j / 10 := by
    have : nst (repC c j) j = ((repC c j).2.1 0 j).toNatClampNeg := rfl
    rw [this, e0, nI_clamp (by omega)]
  have ns := nsum_one (f := nst c) (g := nst (repC c j)) hj12 (fun m _ hm => nst_eq (rep_o hm))
  have bs := bsum_one (f := c.2.1 0) (g := (repC c j).2.1 0) hj (fun m _ hm => rep_o hm)
  have bj : (repC c j).2.1 0 j = c.2.1 0 j - c.2.1 0 j / 10 := upd_s
  have s1 : (repC c j).2.1 1 j = 0 := upd_s
  refine ⟨Base_of hB ?_ (InvG_eq hG rfl rfl rfl) (fun m hm => ?_) (fun m h1 h2 => InvO_eq (hO m h1 h2) (fun a _ _ _ => rep_o (by omega)) rfl) (Nat.le_refl N) (fun _ _ => rfl) (fun _ _ => rfl) (fun _ _ => rfl) (fun _ _ => rfl), ⟨?_, a2, a3, a4⟩, hu, fun m hm => ⟨(hU1 m hm).1, ?_⟩, P + nst c j / 10 * 10, ?_, ?_⟩
  · exact Can_up (k := 1) (Can_cS (Can_up (k := 0) hC (by omega) hj12) (by omega)) (by omega) hj12
  · by_cases e : m = j
    · subst e
      refine ⟨⟨by rw [n0]; exact e0, by rw [n0]; show nst c m - nst c m / 10 ≤ wk5 (c.2.2 m) w; omega⟩, Or.inl s1, fun z => ?_, m5, m6, m7, m8⟩
      rw [s1] at z
      exact absurd z (by decide)
    · exact InvM_eq (hM m hm) (fun a _ _ _ _ => rep_o e) rfl
  · show c.1 5 = 10 * bsum ((repC c j).2.1 0) N + (c.1 6 + c.2.1 0 j / 10 * 10)
    rw [bs, bj, a1]
    grind
  · by_cases e : m = j
    · subst e
      rw [s1]
      decide
    · rw [rep_o e]
      exact (hU1 m hm).2
  · show c.1 6 + c.2.1 0 j / 10 * 10 = _
    rw [p1, ed, show (10 : Int32) = nI 10 from rfl, pk_mul, nI_add]
  · show 10 * nsum (nst (repC c j)) 12 + (P + nst c j / 10 * 10) ≤ capN c w
    omega
theorem rep_loop {w N : Nat} : ∀ (n i : Nat) (c : CS), InvA c w N → i ≤ N → N - i < n → ∃ c' : CS, InvA c' w N ∧ ∀ Post K : CS → Prop, K c' → wl_Clb_replaceCards_2 Post K n (nI i) c := by
  intro n
  induction n with
  | zero => intro i c _ h1 h2; omega
  | succ n ih =>
    intro i c h h1 h2
    have hG := h.1.2.1
    have hN := hG.2.1
    have hc4 := hG.2.2.2.1
    by_cases hi : i = N
    · subst hi
      refine ⟨c, h, fun Post K q => ?_⟩
      unfold wl_Clb_replaceCards_2
      rw [hc4]
      exact ⟨fun _ => q, fun z => absurd (Int32.le_refl _) z⟩
    · have hlt : i < N := by omega
      have hin : vp_in (nI i) 12 := vp_in_nI (by omega) (by omega)
      have hng : ¬ nI N ≤ nI i := nI_ge hlt (by omega)
      by_cases hs : c.2.1 1 i = 1 ∧ ¬ c.1 0 - c.2.1 2 i < 3
      · obtain ⟨c', r1, r4⟩ := ih (i + 1) (repC c i) (rep_inv h hlt) (by omega) (by omega)
        refine ⟨c', r1, fun Post K q => ?_⟩
        unfold wl_Clb_replaceCards_2
        rw [hc4]
        simp only [nI_clamp (show i < 2 ^ 31 by omega), forall_eq]
        refine ⟨fun z => absurd z hng, fun _ => ⟨hin, fun _ => ⟨hin, fun z => absurd z hs.2, fun _ => ⟨hin, hin, hin, hin, ?_⟩⟩, fun z => absurd hs.1 z⟩⟩
        rw [nI_1]
        exact r4 Post K q
      · obtain ⟨c', r1, r4⟩ := ih (i + 1) c h (by omega) (by omega)
        refine ⟨c', r1, fun Post K q => ?_⟩
        unfold wl_Clb_replaceCards_2
        rw [hc4]
        simp only [nI_clamp (show i < 2 ^ 31 by omega), forall_eq]
        have go : wl_Clb_replaceCards_2 Post K n (nI i + 1) c := by rw [nI_1]; exact r4 Post K q
        exact ⟨fun z => absurd z hng, fun _ => ⟨hin, fun z1 => ⟨hin, fun _ => go, fun z2 => absurd ⟨z1, z2⟩ hs⟩, fun _ => go⟩⟩
theorem k_lapsed {c : CS} {i : Nat} {wk : Int32} {Post : Int32 → CS → Prop} (hi : i < 12) (h : ∀ s : Int32, s = (if c.2.1 6 i = -9 then c.2.1 3 i else c.2.1 6 i) → (wk - s ≤ 4 → Post 0 c) ∧ (¬ wk - s ≤ 4 → Post 1 c)) : wp_Crd_hasLapsed c (nI i) wk Post := by
  have hin : vp_in (nI i) 12 := vp_in_nI hi (by omega)
  unfold wp_Crd_hasLapsed
  simp only [nI_clamp (show i < 2 ^ 31 by omega), forall_eq]
  have := h _ rfl
  refine ⟨hin, fun q => ⟨hin, ?_⟩, fun q => ⟨hin, ?_⟩⟩
  · rw [if_pos q] at this; exact this
  · rw [if_neg q] at this; exact this
theorem lap_loop {w N : Nat} : ∀ (n i t : Nat) (c : CS), InvA c w N → i ≤ N → N - i < n → t ≤ i → ∃ (t' : Nat) (c' : CS), t' ≤ N ∧ InvA c' w N ∧ ∀ Post K : Int32 → CS → Prop, K (nI t') c' → wl_Clb_dropLapsed_4 Post K n (nI t) (nI i) c := by
  intro n
  induction n with
  | zero => intro i t c _ h1 h2; omega
  | succ n ih =>
    intro i t c h h1 h2 ht
    have hG := h.1.2.1
    have hN := hG.2.1
    have hc4 := hG.2.2.2.1
    by_cases hi : i = N
    · subst hi
      refine ⟨t, c, ht, h, fun Post K q => ?_⟩
      unfold wl_Clb_dropLapsed_4
      rw [hc4]
      exact ⟨fun _ => q, fun z => absurd (Int32.le_refl _) z⟩
    · have hlt : i < N := by omega
      have hin : vp_in (nI i) 12 := vp_in_nI (by omega) (by omega)
      have hng : ¬ nI N ≤ nI i := nI_ge hlt (by omega)
      have clsl : ∀ (Post K : Int32 → CS → Prop), (pf_Ham_isKind (c.2.1 9 i) = 0 → wl_Clb_dropLapsed_4 Post K n (nI t) (nI (i + 1)) c) → (¬ pf_Ham_isKind (c.2.1 9 i) = 0 → ∀ s : Int32, s = (if c.2.1 6 i = -9 then c.2.1 3 i else c.2.1 6 i) → (c.1 0 - s ≤ 4 → wl_Clb_dropLapsed_4 Post K n (nI t) (nI (i + 1)) c) ∧ (¬ c.1 0 - s ≤ 4 → wp_Hmp_drop c (nI i) (c.2.1 9 i) (fun _ v => wl_Clb_dropLapsed_4 Post K n (nI (t + 1)) (nI (i + 1)) v))) → wl_Clb_dropLapsed_4 Post K (n + 1) (nI t) (nI i) c := by
        intro Post K q1 q2
        unfold wl_Clb_dropLapsed_4
        rw [hc4]
        simp only [nI_clamp (show i < 2 ^ 31 by omega), forall_eq, nI_1]
        refine ⟨fun z => absurd z hng, fun _ => ⟨hin, q1, fun z => ?_⟩⟩
        refine k_lapsed (by omega) (fun s es => ?_)
        have q3 := q2 z s es
        exact ⟨fun y => ⟨fun _ => q3.1 y, fun x => absurd rfl x⟩, fun y => ⟨fun x => absurd x (by decide), fun _ => q3.2 y⟩⟩
      by_cases hs : ¬ c.2.1 9 i = -9 ∧ ¬ c.1 0 - (if c.2.1 6 i = -9 then c.2.1 3 i else c.2.1 6 i) ≤ 4
      · rcases ch_cases h.1 (show i < 12 by omega) with hc | ⟨k, hk, hc⟩
        · exact absurd hc hs.1
        · obtain ⟨x, d, hx, hb, hd, hcl⟩ := drop_base h.1 hlt hk hc
          obtain ⟨t', c', r0, r1, r4⟩ := ih (i + 1) (t + 1) d (InvA_pf h hb hd.pf) (by omega) (by omega) (by omega)
          refine ⟨t', c', r0, r1, fun Post K q => clsl Post K (fun z => ?_) (fun _ s es => ⟨fun z => ?_, fun _ => ?_⟩)⟩
          · rw [hc] at z
            exact absurd z (hamK1 hk)
          · rw [es] at z
            exact absurd z hs.2
          · rw [hc]
            exact hcl _ (r4 Post K q)
      · obtain ⟨t', c', r0, r1, r4⟩ := ih (i + 1) t c h (by omega) (by omega) (by omega)
        refine ⟨t', c', r0, r1, fun Post K q => clsl Post K (fun z => r4 Post K q) (fun z s es => ⟨fun _ => r4 Post K q, fun z2 => ?_⟩)⟩
        rw [es] at z2
        refine absurd ⟨fun y => ?_, z2⟩ hs
        rw [y] at z
        exact z hamK9
theorem op_week {c : CS} {w N : Nat} (h : Inv c w N) : Op (fun P => wp_Clb_passWeek c P) c := by
  have hG := h.1.2.1
  have hN := hG.2.1
  have hc0 := hG.2.2.1
  by_cases hu : c.1 1 = 0
  · by_cases hw60 : w < 60
    · obtain ⟨c1', r1, r4⟩ := rep_loop 13 0 _ (wk_inv (h.a hu) hw60) (by omega) (by omega)
      obtain ⟨t, c2', s0, s1, s4⟩ := lap_loop 13 0 0 c1' r1 (by omega) (by omega) (by omega)
      have hI : InvA (cS c2' 3 (c2'.1 3 + nI t)) (w + 1) N := by
        obtain ⟨hB, hA, hf, hU⟩ := s1
        obtain ⟨hC, b2, b3, b4, b5⟩ := hB
        exact ⟨⟨Can_cS hC (by omega), b2, b3, b4, b5⟩, hA, hf, hU⟩
      refine Or.inr ⟨nI t, cS c2' 3 (c2'.1 3 + nI t), w + 1, N, nI_nn (by omega), hI.inv, fun Post q => ?_⟩
      show wp_Clb_passWeek c Post
      unfold wp_Clb_passWeek
      simp only [forall_eq]
      refine ⟨fun _ => ⟨fun _ => ?_, fun z => ?_⟩, fun z => absurd hu z⟩
      · exact ⟨13, r4 _ _ ⟨13, s4 _ _ q⟩⟩
      · rw [hc0] at z
        exact absurd (nI_lt hw60 (by omega)) z
    · refine Or.inl ⟨-3, by decide, fun Post q => ?_⟩
      show wp_Clb_passWeek c Post
      unfold wp_Clb_passWeek
      refine ⟨fun _ => ⟨fun z => ?_, fun _ => q⟩, fun z => absurd hu z⟩
      rw [hc0] at z
      exact absurd z (Int32.not_lt.mpr (nI_le (a := 60) (by omega) (by have := hG.1; omega)))
  · refine Or.inl ⟨-2, by decide, fun Post q => ?_⟩
    show wp_Clb_passWeek c Post
    unfold wp_Clb_passWeek
    exact ⟨fun z => absurd z hu, fun _ => q⟩
