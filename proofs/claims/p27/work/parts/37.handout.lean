/-! Settling: handing out. -/
def handC (c : CS) (j k : Nat) (p : Int32) : CS :=
  let c1 := cA c 0 (upd (c.2.1 0) j (c.2.1 0 j - p))
  let c2 := cS c1 5 (c1.1 5 - p * 10)
  let c3 := cS c2 9 (c2.1 9 + p * 10)
  let c4 := cA c3 11 (upd (c3.2.1 11) j (nI k))
  let c5 := cA c4 9 (upd (c4.2.1 9) j (-9))
  cS c5 2 (c5.1 2 + 1)
def ms (c : CS) (k : Nat) : Nat := fb_ct (fun m => decide (c.2.1 9 m = nI k)) 12
theorem ms_pos {c : CS} {k q : Nat} (hq : q < 12) (h : c.2.1 9 q = nI k) : 0 < ms c k := by
  rcases Nat.eq_zero_or_pos (ms c k) with z | z
  · have := fb_ct_zero.mp z q hq
    exact absurd h (of_decide_eq_false this)
  · exact z
theorem ms_drop {c c' : CS} {k q : Nat} (hq : q < 12) (hk : k < 4) (h : c.2.1 9 q = nI k) (h9 : c'.2.1 9 = upd (c.2.1 9) q (-9)) : ms c' k + 1 = ms c k := by
  have e := fb_ct_upd (fun m => decide (c.2.1 9 m = nI k)) false hq
  have e2 : fb_ct (fun m => if m = q then false else decide (c.2.1 9 m = nI k)) 12 = ms c' k := by
    refine fb_ct_cong (fun m hm => ?_)
    show (if m = q then false else decide (c.2.1 9 m = nI k)) = decide (c'.2.1 9 m = nI k)
    rw [h9, upd_if]
    by_cases z : m = q
    · rw [if_pos z, if_pos z]
      exact (decide_eq_false (neg9_ne hk)).symm
    · rw [if_neg z, if_neg z]
  rw [e2] at e
  have e3 : decide (c.2.1 9 q = nI k) = true := decide_eq_true h
  simp only [e3, if_true] at e
  unfold ms at e ⊢
  simpa using e
theorem ms_le (c : CS) (k : Nat) : ms c k ≤ 12 := by
  have go : ∀ (p : Nat → Bool) n, fb_ct p n ≤ n := by
    intro p n
    induction n with
    | zero => exact Nat.le_refl _
    | succ n ih =>
      rw [fb_ct_succ]
      split <;> omega
  exact go _ 12
def kept (c : CS) (k m : Nat) : Prop := c.2.1 9 m = nI k ∧ c.2.1 10 m = 0
/-- what a member has while the hampers are handed out -/
def J (c1 c : CS) (m : Nat) : Prop := (c.2.1 11 m = -9 ∧ c.2.1 0 m = c1.2.1 0 m ∧ (c.2.1 9 m = c1.2.1 9 m ∨ c.2.1 9 m = -9)) ∨ ∃ k p, k < 4 ∧ c.2.1 11 m = nI k ∧ c1.2.1 9 m = nI k ∧ c1.2.1 7 k = nI p ∧ p ≤ 200 ∧ p ≤ nst c1 m ∧ c.2.1 0 m = nI (nst c1 m - p) ∧ c.2.1 9 m = -9
def Mid (c1 c : CS) (w N : Nat) (R : Int32) : Prop := Base c w N ∧ (∀ k, k ≠ 2 → k ≠ 5 → k ≠ 9 → c.1 k = c1.1 k) ∧ (∀ a, a ≠ 0 → a ≠ 8 → a ≠ 9 → a ≠ 10 → a ≠ 11 → c.2.1 a = c1.2.1 a) ∧ c.2.2 = c1.2.2 ∧ AccE c N R ∧ ∀ m, m < 12 → J c1 c m
theorem AccE_pf {c c' : CS} {N : Nat} {R : Int32} (hA : AccE c N R) (p : PF c c') : AccE c' N R := by
  obtain ⟨e1, e2, e3⟩ := p
  have a11 := e2 11 (by omega) (by omega) (by omega)
  have eg : gotF c' = gotF c := by
    funext m
    unfold gotF
    rw [a11]
  unfold AccE at hA ⊢
  rw [e1, e2 0 (by omega) (by omega) (by omega), e2 4 (by omega) (by omega) (by omega), eg]
  exact hA
theorem Mid_drop {c1 c c' : CS} {w N j k : Nat} {R x : Int32} (h : Mid c1 c w N R) (hk : k < 4) (hc : c.2.1 9 j = nI k) (hb : Base c' w N) (hd : DF c c' j x) : Mid c1 c' w N R := by
  obtain ⟨-, h2, h3, h4, h5, h6⟩ := h
  obtain ⟨d1, d2, d3, d4, -, -⟩ := id hd
  refine ⟨hb, fun q q2 q5 q9 => by rw [d1]; exact h2 q q2 q5 q9, fun a a0 a8 a9 a10 a11 => (d2 a a8 a9 a10).trans (h3 a a0 a8 a9 a10 a11), d3.trans h4, AccE_pf h5 hd.pf, fun m hm => ?_⟩
  have J0 := h6 m hm
  unfold J at J0 ⊢
  rw [d2 11 (by omega) (by omega) (by omega), d2 0 (by omega) (by omega) (by omega), d4, upd_if]
  by_cases e : m = j
  · rw [if_pos e]
    rcases J0 with ⟨z1, z2, z3⟩ | ⟨k', p, z1, z2, z3, z4, z5, z6, z7, z8⟩
    · exact Or.inl ⟨z1, z2, Or.inr rfl⟩
    · exact Or.inr ⟨k', p, z1, z2, z3, z4, z5, z6, z7, rfl⟩
  · rw [if_neg e]
    exact J0
theorem hand_o {c : CS} {j k m a : Nat} {p : Int32} (h : m ≠ j) : (handC c j k p).2.1 a m = c.2.1 a m := by
  show (if a = 9 then upd (c.2.1 9) j (-9) else if a = 11 then upd (c.2.1 11) j (nI k) else if a = 0 then upd (c.2.1 0) j (c.2.1 0 j - p) else c.2.1 a) m = _
  by_cases e1 : a = 9
  · rw [if_pos e1, upd_o h, e1]
  · rw [if_neg e1]
    by_cases e2 : a = 11
    · rw [if_pos e2, upd_o h, e2]
    · rw [if_neg e2]
      by_cases e3 : a = 0
      · rw [if_pos e3, upd_o h, e3]
      · rw [if_neg e3]
theorem hand_a {c : CS} {j k a : Nat} {p : Int32} (h0 : a ≠ 0) (h9 : a ≠ 9) (h11 : a ≠ 11) : (handC c j k p).2.1 a = c.2.1 a := by
  show (if a = 9 then upd (c.2.1 9) j (-9) else if a = 11 then upd (c.2.1 11) j (nI k) else if a = 0 then upd (c.2.1 0) j (c.2.1 0 j - p) else c.2.1 a) = _
  rw [if_neg h9, if_neg h11, if_neg h0]
theorem hand_base {c : CS} {w N j k p : Nat} (h : Base c w N) (hj : j < N) (hk : k < 4) (hkp : kept c k j) (hp : p ≤ nst c j) : Base (handC c j k (nI p)) w N := by
  obtain ⟨hC, hG, hM, hO, hQ⟩ := h
  have hN := hG.2.1
  have hj12 : j < 12 := by omega
  have c9 : ∀ m, (handC c j k (nI p)).2.1 9 m = if m = j then -9 else c.2.1 9 m := fun m => rfl
  have c10 : ∀ m, (handC c j k (nI p)).2.1 10 m = c.2.1 10 m := fun m => rfl
  refine ⟨?_, InvG_eq hG rfl rfl rfl, fun m hm => ?_, fun m h1 h2 => InvO_eq (hO m h1 h2) (fun a _ _ _ => hand_o (by omega)) rfl, fun q hq => ⟨?_, ?_⟩⟩
  · exact Can_cS (Can_up (k := 9) (Can_up (k := 11) (Can_cS (Can_cS (Can_up (k := 0) hC (by omega) hj12) (by omega)) (by omega)) (by omega) hj12) (by omega) hj12) (by omega)
  · by_cases e : m = j
    · subst e
      obtain ⟨⟨m1, m2⟩, m3, m4, m5, m6, m7, m8⟩ := hM m hm
      have hle := wk5_le (g := c.2.2 m) hG.1
      have e0 : (handC c m k (nI p)).2.1 0 m = nI (nst c m - p) := by
        show upd (c.2.1 0) m (c.2.1 0 m - nI p) m = _
        rw [upd_s, m1, pk_sub hp]
      have n0 : nst (handC c m k (nI p)) m = nst c m - p := by
        have : nst (handC c m k (nI p)) m = ((handC c m k (nI p)).2.1 0 m).toNatClampNeg := rfl
        rw [this, e0, nI_clamp (by omega)]
      exact ⟨⟨by rw [n0]; exact e0, by rw [n0]; show nst c m - p ≤ wk5 (c.2.2 m) w; omega⟩, m3, m4, m5, Or.inl ⟨upd_s, hkp.2⟩, Or.inr ⟨k, hk, upd_s⟩, m8⟩
    · exact InvM_eq (hM m hm) (fun a _ _ _ _ => hand_o e) rfl
  · obtain ⟨⟨f1, s, f2, f3⟩, -⟩ := hQ q hq
    refine ⟨f1, s, f2, ?_⟩
    have : kct (handC c j k (nI p)) q ≤ kct c q := by
      by_cases e : q = k
      · subst e
        have := kct_less (c' := handC c j q (nI p)) hj12 hq hkp.1 hkp.2 upd_s (fun m hm hmj => by rw [c9, c10, if_neg hmj])
        omega
      · refine Nat.le_of_eq (fb_ct_cong (fun m hm => ?_))
        rw [c9, c10]
        by_cases z : m = j
        · rw [if_pos z, decide_eq_false (fun y => neg9_ne hq y.1), decide_eq_false (fun y => by
            rw [z, hkp.1] at y
            exact e ((nI_eq (by omega) (by omega)).mp y.1).symm)]
        · rw [if_neg z]
    omega
  · obtain ⟨n, n1, n2, n3, n4⟩ := (hQ q hq).2
    have back : ∀ m, (handC c j k (nI p)).2.1 9 m = nI q → c.2.1 9 m = nI q := fun m e => by
      rw [c9] at e
      by_cases z : m = j
      · rw [if_pos z] at e
        exact absurd e (neg9_ne hq)
      · rw [if_neg z] at e
        exact e
    refine ⟨n, n1, fun i hi => ?_, fun m hm e => n3 m hm (back m e), fun m m' hm hm' e e' y => n4 m m' hm hm' (back m e) (back m' e') y⟩
    obtain ⟨m, m1, m2, m3⟩ := n2 i hi
    have hmj : m ≠ j := fun em => by
      rw [em, hkp.2] at m3
      exact absurd m3.symm (ne0 (by omega))
    exact ⟨m, m1, by rw [c9, if_neg hmj]; exact m2, m3⟩
theorem hand_mid {c1 c : CS} {w N j k p : Nat} {R : Int32} (h : Mid c1 c w N R) (hj : j < N) (hk : k < 4) (hkp : kept c k j) (hp : p ≤ nst c j) (hp2 : p ≤ 200) (h7 : c1.2.1 7 k = nI p) : Mid c1 (handC c j k (nI p)) w N R := by
  obtain ⟨h1, h2, h3, h4, ⟨a1, a2, a3, a4⟩, h6⟩ := h
  have hN := h1.2.1.2.1
  have hj12 : j < 12 := by omega
  have hJ : c.2.1 11 j = -9 ∧ c.2.1 0 j = c1.2.1 0 j ∧ c1.2.1 9 j = nI k := by
    rcases h6 j hj12 with ⟨z1, z2, z3⟩ | ⟨k', p', z1, z2, z3, z4, z5, z6, z7, z8⟩
    · rcases z3 with y | y
      · exact ⟨z1, z2, y.symm.trans hkp.1⟩
      · exact absurd (y.symm.trans hkp.1) (neg9_ne hk)
    · exact absurd (z8.symm.trans hkp.1) (neg9_ne hk)
  have en : nst c j = nst c1 j := by
    unfold nst
    rw [hJ.2.1]
  have bs := bsum_one (f := c.2.1 0) (g := (handC c j k (nI p)).2.1 0) hj (fun m _ hm => hand_o hm)
  have bj : (handC c j k (nI p)).2.1 0 j = c.2.1 0 j - nI p := upd_s
  have gs := bsum_one (f := gotF c) (g := gotF (handC c j k (nI p))) hj (fun m _ hm => by
    unfold gotF
    rw [hand_o hm])
  have g0 : gotF c j = 0 := by
    unfold gotF
    rw [hJ.1]
    decide
  have g1 : gotF (handC c j k (nI p)) j = 1 := by
    unfold gotF
    have : (handC c j k (nI p)).2.1 11 j = nI k := upd_s
    rw [this, if_neg (Int32.not_lt.mpr (nI_nn (by omega)))]
  refine ⟨hand_base h1 hj hk hkp hp, fun q q2 q5 q9 => ?_, fun a a0 a8 a9 a10 a11 => (hand_a a0 a9 a11).trans (h3 a a0 a8 a9 a10 a11), h4, ⟨?_, ?_, a3, ?_⟩, fun m hm => ?_⟩
  · show (if q = 2 then _ else if q = 9 then _ else if q = 5 then _ else c.1 q) = _
    rw [if_neg q2, if_neg q9, if_neg q5]
    exact h2 q q2 q5 q9
  · show c.1 5 - nI p * 10 = 10 * bsum ((handC c j k (nI p)).2.1 0) N + R
    rw [bs, bj, a1]
    grind
  · show c.1 7 = c.1 5 - nI p * 10 + c.1 8 + (c.1 9 + nI p * 10)
    rw [a2]
    grind
  · show c.1 2 + 1 = bsum (gotF (handC c j k (nI p))) N
    rw [gs, g0, g1, a4]
    grind
  · by_cases e : m = j
    · subst e
      refine Or.inr ⟨k, p, hk, upd_s, hJ.2.2, h7, hp2, by omega, ?_, upd_s⟩
      show upd (c.2.1 0) m (c.2.1 0 m - nI p) m = _
      rw [upd_s, (h1.2.2.1 m hm).1.1, pk_sub hp, en]
    · have J0 := h6 m hm
      unfold J at J0 ⊢
      rw [hand_o e, hand_o e, hand_o e]
      exact J0
theorem hand_chain {c1 : CS} {w N k p : Nat} {R : Int32} (hk : k < 4) (hp200 : p ≤ 200) (h7 : c1.2.1 7 k = nI p) : ∀ (n t : Nat) (x : Int32) (c : CS), Mid c1 c w N R → (x = -9 ∨ ∃ q, q < N ∧ x = nI q ∧ kept c k q) → ms c k < n → ms c k + t ≤ 12 → ∃ c' : CS, Mid c1 c' w N R ∧ ∀ Post : CS → Prop, Post c' → wl_Clb_handOutOne_16 Post (fun v => Post v) n (nI k) (nI p) x (nI t) c := by
  intro n
  induction n with
  | zero => intro t x c _ _ h; omega
  | succ n ih =>
    intro t x c h hx hm ht
    have hN := h.1.2.1.2.1
    rcases hx with hx | ⟨q, hq, hx, hkq⟩
    · subst hx
      refine ⟨c, h, fun Post z => ?_⟩
      unfold wl_Clb_handOutOne_16
      exact ⟨fun _ => z, fun _ => ⟨fun _ => z, fun y => absurd rfl y⟩⟩
    · subst hx
      have hpos := ms_pos (c := c) (k := k) (q := q) (by omega) hkq.1
      have ht12 : ¬ (12 : Int32) ≤ nI t := nI_ge (a := t) (b := 12) (by omega) (by omega)
      have hq9 : ¬ nI q = -9 := fun z => neg9_ne' z
      have hin : vp_in (nI q) 12 := vp_in_nI (by omega) (by omega)
      obtain ⟨es, es2⟩ := st_eq (h.1.2.2.1 q (by omega)) h.1.2.1.1
      by_cases hpay : p ≤ nst c q
      · refine ⟨handC c q k (nI p), hand_mid h hq hk hkq hpay hp200 h7, fun Post z => ?_⟩
        unfold wl_Clb_handOutOne_16 wp_Acc_payShop wp_Hmp_handOut
        simp only [nI_clamp (show q < 2 ^ 31 by omega), forall_eq]
        refine ⟨fun y => absurd y ht12, fun _ => ⟨fun y => absurd y hq9, fun _ => ⟨hin, fun y => ?_, fun _ => ⟨hin, hin, hin, hin, z⟩⟩⟩⟩
        rw [es] at y
        exact absurd (nI_le hpay (by omega)) (Int32.not_le.mpr y)
      · obtain ⟨x1, c1', hx1, hb1, hd1, hcl1⟩ := drop_base h.1 hq hk hkq.1
        have hms := ms_drop (by omega) hk hkq.1 hd1.2.2.2.1
        obtain ⟨c', r1, r8⟩ := ih (t + 1) x1 c1' (Mid_drop h hk hkq.1 hb1 hd1) (by
          rcases hx1 with y | ⟨q', y1, y2, y3, y4, y5, y6⟩
          · exact Or.inl y
          · exact Or.inr ⟨q', y1, y3, y4, y5⟩) (by omega) (by omega)
        refine ⟨c', r1, fun Post z => ?_⟩
        unfold wl_Clb_handOutOne_16
        rw [nI_clamp (show q < 2 ^ 31 by omega)]
        refine ⟨fun y => absurd y ht12, fun _ => ⟨fun y => absurd y hq9, fun _ => ⟨hin, fun _ => hcl1 _ ?_, fun y => ?_⟩⟩⟩
        · intro x5 e5
          rw [e5, nI_1]
          exact r8 Post z
        · rw [es] at y
          exact absurd (nI_lt (Nat.lt_of_not_le hpay) (by omega)) y
theorem kind_loop {c1 : CS} {w N k : Nat} {R : Int32} (hk : k < 4) : ∀ (n i : Nat) (c : CS), Mid c1 c w N R → i ≤ N → N - i < n → ∃ c' : CS, Mid c1 c' w N R ∧ ∀ Post K : CS → Prop, K c' → wl_Clb_handOutKind_2 Post K n (nI k) (nI i) c := by
  intro n
  induction n with
  | zero => intro i c _ h1 h2; omega
  | succ n ih =>
    intro i c h h1 h2
    have hG := h.1.2.1
    have hN := hG.2.1
    have hc4 := hG.2.2.2.1
    by_cases hi : i = N
    · subst hi
      refine ⟨c, h, fun Post K q => ?_⟩
      unfold wl_Clb_handOutKind_2
      rw [hc4]
      exact ⟨fun _ => q, fun z => absurd (Int32.le_refl _) z⟩
    · have hlt : i < N := by omega
      have hin : vp_in (nI i) 12 := vp_in_nI (by omega) (by omega)
      have hng : ¬ nI N ≤ nI i := nI_ge hlt (by omega)
      by_cases hkp : kept c k i
      · obtain ⟨p, p1, p2, p3⟩ := (h.1.2.2.2.2 k hk).1.1
        have p4 : c1.2.1 7 k = nI p := by
          rw [← h.2.2.1 7 (by omega) (by omega) (by omega) (by omega) (by omega)]
          exact p3
        obtain ⟨c1', r1, r8⟩ := hand_chain hk p2 p4 13 0 (nI i) c h (Or.inr ⟨i, hlt, rfl, hkp⟩) (by have := ms_le c k; omega) (by have := ms_le c k; omega)
        obtain ⟨c', s1, s7⟩ := ih (i + 1) c1' r1 (by omega) (by omega)
        refine ⟨c', s1, fun Post K q => ?_⟩
        unfold wl_Clb_handOutKind_2
        rw [hc4, nI_clamp (show i < 2 ^ 31 by omega)]
        refine ⟨fun z => absurd z hng, fun _ => ⟨hin, fun _ => ?_, fun z => absurd hkp.1 z⟩⟩
        unfold wp_Hmp_hasOneKept
        rw [nI_clamp (show i < 2 ^ 31 by omega), hkp.1]
        refine ⟨hin, fun z => (neg9_ne' z).elim, fun _ => ⟨hin, fun _ => ⟨fun z => absurd z (by decide), fun _ => ?_⟩, fun z => absurd hkp.2 z⟩⟩
        unfold wp_Clb_handOutOne
        rw [nI_clamp (show k < 2 ^ 31 by omega), p3]
        refine ⟨vp_in_nI (by omega) (by omega), fun x ex => ⟨13, ?_⟩⟩
        rw [ex]
        refine r8 (fun v => ∀ x7 : Int32, x7 = nI i + 1 → wl_Clb_handOutKind_2 Post K n (nI k) x7 v) ?_
        intro x ex
        rw [ex, nI_1]
        exact s7 Post K q
      · obtain ⟨c', s1, s7⟩ := ih (i + 1) c h (by omega) (by omega)
        refine ⟨c', s1, fun Post K q => ?_⟩
        unfold wl_Clb_handOutKind_2
        rw [hc4, nI_clamp (show i < 2 ^ 31 by omega)]
        have nx : ∀ x : Int32, x = nI i + 1 → wl_Clb_handOutKind_2 Post K n (nI k) x c := by
          intro x ex
          rw [ex, nI_1]
          exact s7 Post K q
        refine ⟨fun z => absurd z hng, fun _ => ⟨hin, fun z => ?_, fun _ => nx⟩⟩
        unfold wp_Hmp_hasOneKept
        rw [nI_clamp (show i < 2 ^ 31 by omega)]
        exact ⟨hin, fun _ => ⟨fun _ => nx, fun y => absurd rfl y⟩, fun _ => ⟨hin, fun y => absurd ⟨z, y⟩ hkp, fun _ => ⟨fun _ => nx, fun y => absurd rfl y⟩⟩⟩
theorem kinds_loop {c1 : CS} {w N : Nat} {R : Int32} : ∀ (n t : Nat) (c : CS), Mid c1 c w N R → t ≤ 4 → 4 - t < n → ∃ c' : CS, Mid c1 c' w N R ∧ ∀ (Post : Int32 → CS → Prop) (K : CS → Prop), K c' → wl_Clb_settleAll_49 Post K n (nI t) c := by
  intro n
  induction n with
  | zero => intro t c _ h1 h2; omega
  | succ n ih =>
    intro t c h h1 h2
    have hN := h.1.2.1.2.1
    by_cases ht : t = 4
    · subst ht
      refine ⟨c, h, fun Post K q => ?_⟩
      unfold wl_Clb_settleAll_49
      exact ⟨fun _ => q, fun z => absurd (Int32.le_refl _) z⟩
    · have hlt : t < 4 := by omega
      have hng : ¬ (4 : Int32) ≤ nI t := nI_ge (a := t) (b := 4) hlt (by omega)
      obtain ⟨c1', r1, r7⟩ := kind_loop hlt 13 0 c h (by omega) (by omega)
      obtain ⟨c', s1, s7⟩ := ih (t + 1) c1' r1 (by omega) (by omega)
      refine ⟨c', s1, fun Post K q => ?_⟩
      unfold wl_Clb_settleAll_49
      refine ⟨fun z => absurd z hng, fun _ => ⟨13, ?_⟩⟩
      refine r7 _ _ ?_
      intro x ex
      rw [ex, nI_1]
      exact s7 Post K q
