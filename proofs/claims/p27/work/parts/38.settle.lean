/-! Settling: the cards are closed; the whole of it. -/
def filF (f : Nat → Int32) (v : Int32) (i : Nat) : Nat → Int32 := fun m => if m < i then v else f m
theorem t_fill {f : Nat → Int32} {v : Int32} {Post : (Nat → Int32) → Prop} (h : Post (filF f v 12)) : wp_Arr_fill f v Post := by
  have go : ∀ n i, i ≤ 12 → 12 - i < n → wl_Arr_fill_5 Post (fun u => Post u) n v (nI i) 12 (filF f v i) := by
    intro n
    induction n with
    | zero => intro i h1 h2; omega
    | succ n ih =>
      intro i h1 h2
      unfold wl_Arr_fill_5
      rw [i12 h1]
      refine ⟨fun q => by subst q; exact h, fun q => ⟨vp_in_nI (by omega) (by omega), ?_⟩⟩
      intro u eu x ex
      rw [eu, ex, nI_1, nI_clamp (by omega)]
      have e : upd (filF f v i) i v = filF f v (i + 1) := by
        funext m
        rw [upd_if]
        unfold filF
        by_cases z : m = i
        · rw [if_pos z, if_pos (by omega)]
        · rw [if_neg z]
          by_cases y : m < i
          · rw [if_pos y, if_pos (by omega)]
          · rw [if_neg y, if_neg (by omega)]
      rw [e]
      exact ih (i + 1) (by omega) (by omega)
  have e0 : filF f v 0 = f := by
    funext m
    unfold filF
    rw [if_neg (by omega)]
  have := go 13 0 (by omega) (by omega)
  rw [e0] at this
  exact ⟨13, this⟩
def closeC (c : CS) (i : Nat) : CS := cA (cA (payC c i (c.2.1 0 i * 10)) 0 (upd (c.2.1 0) i 0)) 1 (upd (c.2.1 1) i 2)
def endC (c : CS) : CS := cS (cA (cA c 9 (filF (c.2.1 9) (-9) 12)) 10 (filF (c.2.1 10) 0 12)) 1 1
def Cl (c2 c : CS) (N i : Nat) (R : Int32) : Prop := Can c ∧ (∀ k, k ≠ 5 → k ≠ 8 → c.1 k = c2.1 k) ∧ (∀ a, a ≠ 0 → a ≠ 1 → a ≠ 4 → c.2.1 a = c2.2.1 a) ∧ c.2.2 = c2.2.2 ∧ (∀ m, m < 12 → c.2.1 0 m = if m < i then 0 else c2.2.1 0 m) ∧ (∀ m, m < 12 → c.2.1 1 m = if m < i then 2 else c2.2.1 1 m) ∧ (∀ m, m < 12 → c.2.1 4 m = if m < i then c2.2.1 4 m + c2.2.1 0 m * 10 else c2.2.1 4 m) ∧ AccE c N R
theorem close_o {c : CS} {i m a : Nat} (h : m ≠ i) : (closeC c i).2.1 a m = c.2.1 a m := by
  show (if a = 1 then upd (c.2.1 1) i 2 else if a = 0 then upd (c.2.1 0) i 0 else if a = 4 then upd (c.2.1 4) i _ else c.2.1 a) m = _
  by_cases e1 : a = 1
  · rw [if_pos e1, upd_o h, e1]
  · rw [if_neg e1]
    by_cases e2 : a = 0
    · rw [if_pos e2, upd_o h, e2]
    · rw [if_neg e2]
      by_cases e3 : a = 4
      · rw [if_pos e3, upd_o h, e3]
      · rw [if_neg e3]
theorem close_step {c2 c : CS} {N i : Nat} {R : Int32} (h : Cl c2 c N i R) (hi : i < N) (hN : N ≤ 12) : Cl c2 (closeC c i) N (i + 1) R := by
  obtain ⟨q1, q2, q3, q4, q5, q6, q7, a1, a2, a3, a4⟩ := h
  have hi12 : i < 12 := by omega
  have bs := bsum_one (f := c.2.1 0) (g := (closeC c i).2.1 0) hi (fun m _ hm => close_o hm)
  have bj : (closeC c i).2.1 0 i = 0 := upd_s
  have bp := bsum_one (f := c.2.1 4) (g := (closeC c i).2.1 4) hi (fun m _ hm => close_o hm)
  have bpj : (closeC c i).2.1 4 i = c.2.1 4 i + c.2.1 0 i * 10 := upd_s
  have b1 : (closeC c i).2.1 1 i = 2 := upd_s
  refine ⟨?_, fun k k5 k8 => ?_, fun a a0 a1 a4 => ?_, q4, fun m hm => ?_, fun m hm => ?_, fun m hm => ?_, ?_, ?_, ?_, a4⟩
  · exact Can_up (k := 1) (Can_up (k := 0) (Can_up (k := 4) (Can_cS (Can_cS q1 (by omega)) (by omega)) (by omega) hi12) (by omega) hi12) (by omega) hi12
  · show (if k = 8 then _ else if k = 5 then _ else c.1 k) = _
    rw [if_neg k8, if_neg k5]
    exact q2 k k5 k8
  · show (if a = 1 then _ else if a = 0 then _ else if a = 4 then _ else c.2.1 a) = _
    rw [if_neg a1, if_neg a0, if_neg a4]
    exact q3 a a0 a1 a4
  · by_cases e : m = i
    · subst e
      rw [bj, if_pos (Nat.lt_succ_self m)]
    · rw [close_o e, q5 m hm]
      by_cases z : m < i
      · rw [if_pos z, if_pos (by omega)]
      · rw [if_neg z, if_neg (by omega)]
  · by_cases e : m = i
    · subst e
      rw [b1, if_pos (Nat.lt_succ_self m)]
    · rw [close_o e, q6 m hm]
      by_cases z : m < i
      · rw [if_pos z, if_pos (by omega)]
      · rw [if_neg z, if_neg (by omega)]
  · by_cases e : m = i
    · subst e
      have e4 := q7 m hm
      have e0 := q5 m hm
      rw [if_neg (Nat.lt_irrefl m)] at e4 e0
      rw [bpj, e4, e0, if_pos (Nat.lt_succ_self m)]
    · rw [close_o e, q7 m hm]
      by_cases z : m < i
      · rw [if_pos z, if_pos (by omega)]
      · rw [if_neg z, if_neg (by omega)]
  · show c.1 5 - c.2.1 0 i * 10 = 10 * bsum ((closeC c i).2.1 0) N + R
    rw [bs, bj, a1]
    grind
  · show c.1 7 = c.1 5 - c.2.1 0 i * 10 + (c.1 8 + c.2.1 0 i * 10) + c.1 9
    rw [a2]
    grind
  · show c.1 8 + c.2.1 0 i * 10 = bsum ((closeC c i).2.1 4) N
    rw [bp, bpj, a3]
    grind
theorem close_loop {c2 : CS} {N : Nat} {R : Int32} (hN : N ≤ 12) (h4 : c2.1 4 = nI N) : ∀ (n i : Nat) (c : CS), Cl c2 c N i R → i + n = N → ∃ c' : CS, Cl c2 c' N N R ∧ ∀ (Post : Int32 → CS → Prop) (K : CS → Prop), K c' → wl_Clb_settleAll_67 Post K (n + 1) (nI i) c := by
  intro n
  induction n with
  | zero =>
    intro i c h hi
    have : i = N := by omega
    subst this
    refine ⟨c, h, fun Post K q => ?_⟩
    unfold wl_Clb_settleAll_67
    rw [h.2.1 4 (by omega) (by omega), h4]
    exact ⟨fun _ => q, fun z => absurd (Int32.le_refl _) z⟩
  | succ n ih =>
    intro i c h hi
    have hin : vp_in (nI i) 12 := vp_in_nI (by omega) (by omega)
    have hng : ¬ nI N ≤ nI i := nI_ge (by omega) (by omega)
    obtain ⟨c', r1, r4⟩ := ih (i + 1) (closeC c i) (close_step h (by omega) hN) (by omega)
    refine ⟨c', r1, fun Post K q => ?_⟩
    unfold wl_Clb_settleAll_67
    rw [h.2.1 4 (by omega) (by omega), h4, nI_clamp (show i < 2 ^ 31 by omega)]
    refine ⟨fun z => absurd z hng, fun _ => ⟨hin, k_payMember (by omega) ⟨hin, ?_⟩⟩⟩
    simp only [forall_eq, nI_1]
    exact ⟨hin, r4 Post K q⟩
/-- what settling does for a member -/
def SetF (c c' : CS) (N : Nat) : Prop := ∀ m, m < N → ∃ s, s ≤ 305 ∧ c'.2.1 4 m = c.2.1 4 m + bon c N m + nI s * 10 ∧ ((c'.2.1 11 m = -9 ∧ c.2.1 0 m = nI s) ∨ ∃ k p, k < 4 ∧ p ≤ 200 ∧ c'.2.1 11 m = nI k ∧ c.2.1 9 m = nI k ∧ c.2.1 7 k = nI p ∧ c.2.1 0 m = nI (s + p))
theorem cap_le {c : CS} {w : Nat} (hw : w ≤ 60) : capN c w ≤ 36600 :=
  nsum_bd (M := 3050) 12 (fun m _ => by have := wk5_le (g := c.2.2 m) hw; show 10 * _ ≤ _; omega)
theorem end_inv {c2 c : CS} {w N T : Nat} {R : Int32} (hB : Base c2 w N) (h : Cl c2 c N N R) (h6 : c2.1 6 = 0) (hT : T < 2 ^ 31) (hR : R = nI T) (hg : ∀ m, m < 12 → c2.2.1 1 m = 0 ∨ c2.2.1 1 m = 1 ∨ c2.2.1 1 m = 2) : Inv (endC c) w N := by
  obtain ⟨q1, q2, q3, q4, q5, q6, q7, hA⟩ := h
  obtain ⟨hC, hG, hM, hO, hQ⟩ := hB
  have hN := hG.2.1
  have ea : ∀ a, a ≠ 9 → a ≠ 10 → (endC c).2.1 a = c.2.1 a := fun a a9 a10 => by
    show (if a = 10 then _ else if a = 9 then _ else c.2.1 a) = _
    rw [if_neg a10, if_neg a9]
  have e9 : ∀ m, m < 12 → (endC c).2.1 9 m = -9 := fun m hm => by
    show filF (c.2.1 9) (-9) 12 m = _
    unfold filF
    rw [if_pos hm]
  have e10 : ∀ m, m < 12 → (endC c).2.1 10 m = 0 := fun m hm => by
    show filF (c.2.1 10) 0 12 m = _
    unfold filF
    rw [if_pos hm]
  have s0 : ∀ m, m < 12 → (endC c).2.1 0 m = 0 := fun m hm => by
    rw [ea 0 (by omega) (by omega), q5 m hm]
    by_cases z : m < N
    · rw [if_pos z]
    · rw [if_neg z]
      exact (hO m (by omega) hm).1
  have n0 : ∀ m, m < 12 → nst (endC c) m = 0 := fun m hm => by
    unfold nst
    rw [s0 m hm]
    decide
  have s1 : ∀ m, m < 12 → (endC c).2.1 1 m = if m < N then 2 else 0 := fun m hm => by
    rw [ea 1 (by omega) (by omega), q6 m hm]
    by_cases z : m < N
    · rw [if_pos z, if_pos z]
    · rw [if_neg z, if_neg z]
      exact (hO m (by omega) hm).2.1
  have ec : ∀ a, a ≠ 0 → a ≠ 1 → a ≠ 4 → a ≠ 9 → a ≠ 10 → (endC c).2.1 a = c2.2.1 a := fun a a0 a1 a4 a9 a10 => (ea a a9 a10).trans (q3 a a0 a1 a4)
  have eg : (endC c).2.2 = c2.2.2 := q4
  have k0 : ∀ k, k < 4 → kct (endC c) k = 0 := fun k hk => fb_ct_zero.mpr (fun m hm => decide_eq_false (fun z => by
    rw [e9 m hm] at z
    exact neg9_ne hk z.1))
  have cS' : ∀ k, k ≠ 1 → k ≠ 5 → k ≠ 8 → (endC c).1 k = c2.1 k := fun k k1 k5 k8 => by
    show (if k = 1 then _ else c.1 k) = _
    rw [if_neg k1]
    exact q2 k k5 k8
  have fl : (endC c).1 1 = 1 := rfl
  have egF : gotF (endC c) = gotF c := by
    funext m
    unfold gotF
    rw [ea 11 (by omega) (by omega)]
  refine ⟨⟨?_, ?_, fun m hm => ?_, fun m h1 h2 => ?_, fun k hk => ⟨?_, 0, by omega, fun i hi => absurd hi (Nat.not_lt_zero i), fun m hm z => ?_, fun m m' hm _ z _ _ => ?_⟩⟩, ⟨R, ?_, fun z => absurd (fl.symm.trans z) (by decide)⟩, fun z => absurd (fl.symm.trans z) (by decide), fun _ => ⟨fun m hm => ?_, fun m hm => ⟨s0 m hm, e9 m hm⟩, (cS' 6 (by omega) (by omega) (by omega)).trans h6, T, hT, ?_⟩⟩
  · refine Can_cS (Can_cA (Can_cA q1 (by omega) (fun m hm => ?_)) (by omega) (fun m hm => ?_)) (by omega)
    · have hm : 12 ≤ m := hm
      unfold filF
      rw [if_neg (by omega)]
      exact q1.2.1 9 m (Or.inr hm)
    · have hm : 12 ≤ m := hm
      unfold filF
      rw [if_neg (by omega)]
      exact q1.2.1 10 m (Or.inr hm)
  · obtain ⟨g1, g2, g3, g4, g5⟩ := hG
    exact ⟨g1, g2, (cS' 0 (by omega) (by omega) (by omega)).trans g3, (cS' 4 (by omega) (by omega) (by omega)).trans g4, Or.inr fl⟩
  · obtain ⟨⟨m1, m2⟩, m3, m4, m5, m6, m7, m8⟩ := hM m hm
    unfold InvM
    rw [n0 m hm, s0 m hm, s1 m hm, e9 m hm, e10 m hm, ec 2 (by omega) (by omega) (by omega) (by omega) (by omega), ec 5 (by omega) (by omega) (by omega) (by omega) (by omega), ec 11 (by omega) (by omega) (by omega) (by omega) (by omega), ec 6 (by omega) (by omega) (by omega) (by omega) (by omega), eg]
    refine ⟨⟨rfl, Nat.zero_le _⟩, ?_, fun z => ?_, m5, Or.inl ⟨rfl, rfl⟩, m7, m8⟩
    · by_cases z : m < N
      · rw [if_pos z]
        exact Or.inr (Or.inr rfl)
      · rw [if_neg z]
        exact Or.inl rfl
    · by_cases y : m < N
      · rw [if_pos y] at z
        exact absurd z (by decide)
      · rw [if_neg y] at z
        exact absurd z (by decide)
  · obtain ⟨o1, o2, o3, o4, o5, o6, o7⟩ := hO m h1 h2
    unfold InvO
    rw [s0 m h2, s1 m h2, e9 m h2, ea 4 (by omega) (by omega), q7 m h2, if_neg (by omega), if_neg (by omega), ec 5 (by omega) (by omega) (by omega) (by omega) (by omega), ec 11 (by omega) (by omega) (by omega) (by omega) (by omega), eg]
    exact ⟨rfl, rfl, o3, o4, rfl, o6, o7⟩
  · obtain ⟨f1, s, f2, f3⟩ := (hQ k hk).1
    unfold InvK
    rw [k0 k hk, ec 7 (by omega) (by omega) (by omega) (by omega) (by omega), ec 8 (by omega) (by omega) (by omega) (by omega) (by omega)]
    exact ⟨f1, s, f2, by omega⟩
  · rw [e9 m hm] at z
    exact absurd z (neg9_ne hk)
  · rw [e9 m hm] at z
    exact absurd z (neg9_ne hk)
  · unfold AccE at hA ⊢
    rw [ea 0 (by omega) (by omega), ea 4 (by omega) (by omega), egF]
    exact hA
  · rw [s1 m (by omega), if_pos hm]
  · have : (endC c).1 5 = 10 * bsum (c.2.1 0) N + R := hA.1
    have hb : bsum (c.2.1 0) N = 0 := bsum_0 (fun m hm => by rw [q5 m (by omega), if_pos hm])
    rw [this, hb, hR]
    exact Int32.zero_add _
theorem settle_ok {c : CS} {w N : Nat} (h : Inv c w N) (hu : c.1 1 = 0) : ∃ (x : Int32) (c' : CS), 0 ≤ x ∧ Inv c' w N ∧ c'.1 1 = 1 ∧ SetF c c' N ∧ ∀ Post : Int32 → CS → Prop, Post x c' → wp_Clb_settleAll c Post := by
  obtain ⟨hB, ⟨a1, a2, a3, a4⟩, -, hU1, P, p1, p2⟩ := h.a hu
  have hG := hB.2.1
  have hw := hG.1
  have hN := hG.2.1
  have hP2 : P ≤ 36600 := by have := cap_le (c := c) hw; omega
  obtain ⟨cb, ⟨b1, b2, b3, b4, b5, b6, b7⟩, b8⟩ := bonus_loop hB 13 0 c ⟨hB.1, fun _ _ _ => rfl, fun _ _ => rfl, rfl, fun m => by rw [if_neg (Nat.not_lt_zero m)], (Int32.sub_zero _).symm, (Int32.add_zero _).symm⟩ (by omega) (by omega)
  have k1 : ∀ k, k ≠ 5 → k ≠ 6 → k ≠ 8 → (cS cb 6 0).1 k = c.1 k := fun k k5 k6 k8 => by
    show (if k = 6 then _ else cb.1 k) = _
    rw [if_neg k6]
    exact b2 k k5 k8
  have g1 : gotF (cS cb 6 0) = gotF c := by
    funext m
    unfold gotF
    show (if cb.2.1 11 m < 0 then (0 : Int32) else 1) = _
    rw [b3 11 (by omega)]
  have hB1 : Base (cS cb 6 0) w N := by
    refine Base_of hB (Can_cS b1 (by omega)) (InvG_eq hG (k1 0 (by omega) (by omega) (by omega)) (k1 1 (by omega) (by omega) (by omega)) (k1 4 (by omega) (by omega) (by omega))) (fun m hm => InvM_eq (hB.2.2.1 m hm) (fun a _ a4 _ _ => ?_) ?_) (fun m h1 h2 => ?_) (Nat.le_refl N) (fun k _ => ?_) (fun k _ => ?_) (fun m _ => ?_) (fun m _ => ?_)
    · show cb.2.1 a m = _
      rw [b3 a a4]
    · show cb.2.2 m = _
      rw [b4]
    · obtain ⟨o1, o2, o3, o4, o5, o6, o7⟩ := hB.2.2.2.1 m h1 h2
      show cb.2.1 0 m = 0 ∧ cb.2.1 1 m = 0 ∧ cb.2.1 4 m = 0 ∧ cb.2.1 5 m = 0 ∧ cb.2.1 9 m = -9 ∧ cb.2.1 11 m = -9 ∧ cb.2.2 m = 0
      rw [b3 0 (by omega), b3 1 (by omega), b5 m, if_neg (by omega), b3 5 (by omega), b3 9 (by omega), b3 11 (by omega), b4]
      exact ⟨o1, o2, o3, o4, o5, o6, o7⟩
    · show cb.2.1 7 k = _
      rw [b3 7 (by omega)]
    · show cb.2.1 8 k = _
      rw [b3 8 (by omega)]
    · show cb.2.1 9 m = _
      rw [b3 9 (by omega)]
    · show cb.2.1 10 m = _
      rw [b3 10 (by omega)]
  have hA1 : AccE (cS cb 6 0) N (c.1 6 - bsum (bon c N) N) := by
    refine ⟨?_, ?_, ?_, ?_⟩
    · show cb.1 5 = 10 * bsum (cb.2.1 0) N + _
      rw [b6, b3 0 (by omega), a1]
      grind
    · show cb.1 7 = cb.1 5 + cb.1 8 + cb.1 9
      rw [b2 7 (by omega) (by omega), b2 9 (by omega) (by omega), b6, b7, a2]
      grind
    · show cb.1 8 = bsum (cb.2.1 4) N
      rw [b7, a3, ← bsum_add]
      exact bsum_cong N (fun m hm => by rw [b5 m, if_pos hm])
    · show cb.1 2 = bsum (gotF (cS cb 6 0)) N
      rw [b2 2 (by omega) (by omega), g1]
      exact a4
  have hJ1 : ∀ m, m < 12 → J (cS cb 6 0) (cS cb 6 0) m := fun m hm => by
    refine Or.inl ⟨?_, rfl, Or.inl rfl⟩
    show cb.2.1 11 m = -9
    rw [b3 11 (by omega)]
    exact (hU1 m hm).1
  obtain ⟨c2, ⟨m1, m2, m3, m4, m5, m6⟩, m7⟩ := kinds_loop 5 0 (cS cb 6 0) ⟨hB1, fun _ _ _ _ => rfl, fun _ _ _ _ _ _ => rfl, rfl, hA1, hJ1⟩ (by omega) (by omega)
  have h24 : c2.1 4 = nI N := m1.2.1.2.2.2.1
  obtain ⟨c3, k2, k3⟩ := close_loop hN h24 N 0 c2 ⟨m1.1, fun _ _ _ => rfl, fun _ _ _ _ => rfl, rfl, fun m _ => by rw [if_neg (Nat.not_lt_zero m)], fun m _ => by rw [if_neg (Nat.not_lt_zero m)], fun m _ => by rw [if_neg (Nat.not_lt_zero m)], m5⟩ (by omega)
  have hle := shN_le (c := c) (M := 12) (fun m hm => (st_eq (hB.2.2.1 m hm) hw).2) N hN
  have hbs : bsum (bon c N) N = nI (nsum (bnat c N P) N) := bsum_nsum N (fun m hm => (bon_nat hw (hB.2.2.1 m (by omega)) hm p1 hP2 hN hle).1)
  have hbP := bnat_sum (c := c) (N := N) (P := P)
  have hR : c.1 6 - bsum (bon c N) N = nI (P - nsum (bnat c N P) N) := by rw [p1, hbs, pk_sub hbP]
  have hI := end_inv m1 k2 ((m2 6 (by omega) (by omega) (by omega)).trans rfl) (show P - nsum (bnat c N P) N < 2 ^ 31 by omega) hR (fun m hm => (m1.2.2.1 m hm).2.1)
  refine ⟨(endC c3).1 2, endC c3, ?_, hI, rfl, fun m hm => ?_, fun Post q => ?_⟩
  · obtain ⟨-, ⟨R', r1, -⟩, -⟩ := hI
    rw [r1.2.2.2, bsum_nsum (g := fun m => if (endC c3).2.1 11 m < 0 then 0 else 1) N (fun m _ => by
      unfold gotF
      show _ = nI (if (endC c3).2.1 11 m < 0 then 0 else 1)
      split <;> rfl)]
    have := nsum_bd (f := fun m => if (endC c3).2.1 11 m < 0 then 0 else 1) (M := 1) N (fun m _ => by show (if (endC c3).2.1 11 m < 0 then 0 else 1) ≤ 1; split <;> omega)
    exact nI_nn (by omega)
  · obtain ⟨q1, q2, q3, q4, q5, q6, q7, -⟩ := k2
    have hm12 : m < 12 := by omega
    obtain ⟨e1, e2⟩ := st_eq (hB.2.2.1 m hm12) hw
    have e4 : (endC c3).2.1 4 m = c.2.1 4 m + bon c N m + c2.2.1 0 m * 10 := by
      have x1 : (endC c3).2.1 4 m = c3.2.1 4 m := rfl
      have x2 : c2.2.1 4 m = cb.2.1 4 m := by rw [m3 4 (by omega) (by omega) (by omega) (by omega) (by omega)]; rfl
      rw [x1, q7 m hm12, if_pos hm, x2, b5 m, if_pos hm]
    have e11 : (endC c3).2.1 11 m = c2.2.1 11 m := by
      have x1 : (endC c3).2.1 11 m = c3.2.1 11 m := rfl
      rw [x1, q3 11 (by omega) (by omega) (by omega)]
    have en : nst (cS cb 6 0) m = nst c m := by
      unfold nst
      show (cb.2.1 0 m).toNatClampNeg = _
      rw [b3 0 (by omega)]
    rcases m6 m hm12 with ⟨z1, z2, z3⟩ | ⟨k, p, z1, z2, z3, z4, z5, z6, z7, z8⟩
    · have z2 : c2.2.1 0 m = c.2.1 0 m := by
        rw [z2]
        show cb.2.1 0 m = _
        rw [b3 0 (by omega)]
      refine ⟨nst c m, e2, by rw [e4, z2, e1], Or.inl ⟨e11.trans z1, e1⟩⟩
    · rw [en] at z6 z7
      refine ⟨nst c m - p, by omega, by rw [e4, z7], Or.inr ⟨k, p, z1, z5, e11.trans z2, ?_, ?_, by rw [Nat.sub_add_cancel z6]; exact e1⟩⟩
      · rw [← z3]
        show _ = cb.2.1 9 m
        rw [b3 9 (by omega)]
      · rw [← z4]
        show _ = cb.2.1 7 k
        rw [b3 7 (by omega)]
  · unfold wp_Clb_settleAll
    refine ⟨fun _ => ⟨13, b8 _ _ ?_⟩, fun z => absurd hu z⟩
    intro v ev
    rw [ev]
    refine ⟨5, m7 _ _ ⟨N + 1, k3 _ _ ?_⟩⟩
    unfold wp_Hmp_forgetChoices
    refine t_fill ?_
    intro v2 ev2
    rw [ev2]
    refine t_fill ?_
    intro v4 ev4
    rw [ev4]
    intro v5 ev5
    rw [ev5]
    exact q
theorem settle_no {c : CS} (hu : ¬ c.1 1 = 0) (Post : Int32 → CS → Prop) (q : Post (-2) c) : wp_Clb_settleAll c Post := by
  unfold wp_Clb_settleAll
  exact ⟨fun z => absurd z hu, fun _ => q⟩
theorem op_settle {c : CS} {w N : Nat} (h : Inv c w N) : Op (fun P => wp_Clb_settleAll c P) c := by
  by_cases hu : c.1 1 = 0
  · obtain ⟨x, c', h1, h2, -, -, h5⟩ := settle_ok h hu
    exact Or.inr ⟨x, c', w, N, h1, h2, h5⟩
  · exact Or.inl ⟨-2, by decide, fun Post q => settle_no hu Post q⟩
