/-! Leaving a row, and being put to one. -/
/-- what a leaving leaves as it was -/
def DF (c c' : CS) (j : Nat) (x : Int32) : Prop := c'.1 = c.1 ∧ (∀ a, a ≠ 8 → a ≠ 9 → a ≠ 10 → c'.2.1 a = c.2.1 a) ∧ c'.2.2 = c.2.2 ∧ c'.2.1 9 = upd (c.2.1 9) j (-9) ∧ (∀ m, m ≠ j → c.2.1 10 m = 0 → c'.2.1 10 m = 0) ∧ ∀ m, m < 12 → m ≠ j → c'.2.1 10 m = 0 → c.2.1 10 m = 0 ∨ x = nI m
theorem Base_rows {c c' : CS} {w N : Nat} (h : Base c w N) (hc : Can c') (e1 : c'.1 = c.1) (e2 : ∀ a, a ≠ 8 → a ≠ 9 → a ≠ 10 → c'.2.1 a = c.2.1 a) (e3 : c'.2.2 = c.2.2) (hI : ∀ m, m < 12 → (c'.2.1 9 m = -9 ∧ c'.2.1 10 m = 0) ∨ ∃ k, k < 4 ∧ c'.2.1 9 m = nI k) (hz : ∀ m, N ≤ m → m < 12 → c'.2.1 9 m = -9) (hK : ∀ k, k < 4 → (∃ s, c'.2.1 8 k = nI s ∧ s + kct c' k ≤ 21) ∧ InvR c' N k) : Base c' w N := by
  obtain ⟨h0, hG, hM, hO, hQ⟩ := h
  refine ⟨hc, InvG_eq hG (by rw [e1]) (by rw [e1]) (by rw [e1]), fun m hm => ?_, fun m h1 h2 => ?_, fun k hk => ⟨⟨?_, (hK k hk).1⟩, (hK k hk).2⟩⟩
  · have b := hM m hm
    unfold InvM at b ⊢
    rw [nst_eq (c := c) (c' := c') (by rw [e2 0 (by omega) (by omega) (by omega)]), e2 0 (by omega) (by omega) (by omega), e2 1 (by omega) (by omega) (by omega), e2 2 (by omega) (by omega) (by omega), e2 5 (by omega) (by omega) (by omega), e2 6 (by omega) (by omega) (by omega), e2 11 (by omega) (by omega) (by omega), e3]
    obtain ⟨b1, b2, b3, b4, b5, b6, b7⟩ := b
    exact ⟨b1, b2, b3, b4, hI m hm, b6, b7⟩
  · have b := hO m h1 h2
    unfold InvO at b ⊢
    rw [e2 0 (by omega) (by omega) (by omega), e2 1 (by omega) (by omega) (by omega), e2 4 (by omega) (by omega) (by omega), e2 5 (by omega) (by omega) (by omega), e2 11 (by omega) (by omega) (by omega), e3]
    obtain ⟨b1, b2, b3, b4, b5, b6, b7⟩ := b
    exact ⟨b1, b2, b3, b4, hz m h1 h2, b6, b7⟩
  · rw [e2 7 (by omega) (by omega) (by omega)]
    exact (hQ k hk).1.1
/-- a place's number -/
theorem row_nat {c : CS} {N k : Nat} (h : InvR c N k) {m : Nat} (hm : m < 12) (h9 : c.2.1 9 m = nI k) : ∃ a, a ≤ 12 ∧ c.2.1 10 m = nI a := by
  obtain ⟨n, n1, -, n3, -⟩ := h
  rcases n3 m hm h9 with z | ⟨i, z1, z2⟩
  · exact ⟨0, by omega, z⟩
  · exact ⟨i + 1, by omega, z2⟩
theorem left_pl {c : CS} {j k lf m a : Nat} (hm : m < 12) (hmj : m ≠ j) (h9 : c.2.1 9 m = nI k) (ha : a ≤ 12) (hlf : lf ≤ 12) (h10 : c.2.1 10 m = nI a) : (leftC c j k lf).2.1 10 m = nI (if lf < a then a - 1 else a) := by
  by_cases z : lf < a
  · rw [if_pos z, left10_s hmj hm h9 (by rw [h10, nle_s (by omega) (by omega)]; omega), h10]
    obtain ⟨b, rfl⟩ : ∃ b, a = b + 1 := ⟨a - 1, by omega⟩
    exact nI_m1 b
  · rw [if_neg z, left10_o hmj (Or.inr (by rw [h10, nle_s (by omega) (by omega)]; omega)), h10]
theorem left_row {c : CS} {N j k n lf : Nat} (hj : j < 12) (hk : k < 4) (hc : c.2.1 9 j = nI k) (hl : c.2.1 10 j = nI lf) (hln : lf ≤ n) (n1 : n ≤ 12) (n2 : ∀ i, i < n → ∃ m, m < N ∧ c.2.1 9 m = nI k ∧ c.2.1 10 m = nI (i + 1)) (n3 : ∀ m, m < 12 → c.2.1 9 m = nI k → c.2.1 10 m = 0 ∨ ∃ i, i < n ∧ c.2.1 10 m = nI (i + 1)) (n4 : ∀ m m', m < 12 → m' < 12 → c.2.1 9 m = nI k → c.2.1 9 m' = nI k → c.2.1 10 m = c.2.1 10 m' → c.2.1 10 m = 0 ∨ m = m') (hN : N ≤ 12) : InvR (leftC c j k lf) N k := by
  have nat : ∀ m, m < 12 → c.2.1 9 m = nI k → ∃ a, a ≤ n ∧ c.2.1 10 m = nI a := fun m hm h9 => by
    rcases n3 m hm h9 with z | ⟨i, z1, z2⟩
    · exact ⟨0, by omega, z⟩
    · exact ⟨i + 1, by omega, z2⟩
  have ne9 : ∀ m, (leftC c j k lf).2.1 9 m = nI k → m ≠ j ∧ c.2.1 9 m = nI k := fun m e => by
    rw [left9] at e
    by_cases z : m = j
    · rw [if_pos z] at e
      exact absurd e (neg9_ne hk)
    · rw [if_neg z] at e
      exact ⟨z, e⟩
  have nj : ∀ m a, m < 12 → a ≤ 12 → a ≠ lf → c.2.1 10 m = nI a → m ≠ j := fun m a _ ha hne e em => by
    rw [em, hl] at e
    exact hne ((nI_eq (by omega) (by omega)).mp e).symm
  refine ⟨n - 1, by omega, fun i hi => ?_, fun m hm e => ?_, fun m m' hm hm' e e' q => ?_⟩
  · by_cases z : lf ≤ i + 1
    · obtain ⟨m, m1, m2, m3⟩ := n2 (i + 1) (by omega)
      have hmj := nj m (i + 1 + 1) (by omega) (by omega) (by omega) m3
      refine ⟨m, m1, ?_, ?_⟩
      · rw [left9, if_neg hmj]
        exact m2
      · rw [left_pl (by omega) hmj m2 (by omega) (by omega) m3, if_pos (by omega)]
        rfl
    · obtain ⟨m, m1, m2, m3⟩ := n2 i (by omega)
      have hmj := nj m (i + 1) (by omega) (by omega) (by omega) m3
      refine ⟨m, m1, ?_, ?_⟩
      · rw [left9, if_neg hmj]
        exact m2
      · rw [left_pl (by omega) hmj m2 (by omega) (by omega) m3, if_neg (by omega)]
  · obtain ⟨hmj, h9⟩ := ne9 m e
    obtain ⟨a, a1, a2⟩ := nat m hm h9
    rw [left_pl hm hmj h9 (by omega) (by omega) a2]
    have hal : ¬ (a = lf ∧ ¬ lf = 0) := fun z => by
      rcases n4 m j hm hj h9 hc (by rw [a2, hl, z.1]) with y | y
      · rw [a2] at y
        have : a = 0 := (nI_eq (b := 0) (by omega) (by omega)).mp y
        omega
      · exact hmj y
    by_cases z : lf < a
    · rw [if_pos z]
      by_cases y : a = 1
      · subst y
        exact Or.inl rfl
      · exact Or.inr ⟨a - 2, by omega, by rw [show a - 2 + 1 = a - 1 by omega]⟩
    · rw [if_neg z]
      by_cases y : a = 0
      · subst y
        exact Or.inl rfl
      · exact Or.inr ⟨a - 1, by omega, by rw [show a - 1 + 1 = a by omega]⟩
  · obtain ⟨hmj, h9⟩ := ne9 m e
    obtain ⟨hmj', h9'⟩ := ne9 m' e'
    obtain ⟨a, a1, a2⟩ := nat m hm h9
    obtain ⟨b, b1, b2⟩ := nat m' hm' h9'
    rw [left_pl hm hmj h9 (by omega) (by omega) a2, left_pl hm' hmj' h9' (by omega) (by omega) b2] at q
    rw [left_pl hm hmj h9 (by omega) (by omega) a2]
    have q' := (nI_eq (by split <;> omega) (by split <;> omega)).mp q
    have uq : ∀ m2 a2', m2 < 12 → m2 ≠ j → c.2.1 9 m2 = nI k → c.2.1 10 m2 = nI a2' → a2' ≤ 12 → a2' = lf → lf = 0 := fun m2 a2' x1 x2 x3 x4 x5 x6 => by
      rcases n4 m2 j x1 hj x3 hc (by rw [x4, hl, x6]) with y | y
      · rw [x4] at y
        have : a2' = 0 := (nI_eq (b := 0) (by omega) (by omega)).mp y
        omega
      · exact absurd y x2
    have ua := uq m a hm hmj h9 a2 (by omega)
    have ub := uq m' b hm' hmj' h9' b2 (by omega)
    by_cases eab : a = b
    · subst eab
      rcases n4 m m' hm hm' h9 h9' (a2.trans b2.symm) with y | y
      · left
        rw [a2] at y
        have : a = 0 := (nI_eq (b := 0) (by omega) (by omega)).mp y
        subst this
        rw [if_neg (by omega)]
        rfl
      · exact Or.inr y
    · left
      have : (if lf < a then a - 1 else a) = 0 := by
        by_cases za : lf < a
        · rw [if_pos za] at q' ⊢
          by_cases zb : lf < b
          · rw [if_pos zb] at q'
            omega
          · rw [if_neg zb] at q'
            have := ub (by omega)
            omega
        · rw [if_neg za] at q' ⊢
          by_cases zb : lf < b
          · rw [if_pos zb] at q'
            have := ua (by omega)
            omega
          · rw [if_neg zb] at q'
            omega
      rw [this]
      rfl
/-- the other rows -/
theorem left_oth {c : CS} {j k lf q m : Nat} (hq : q < 4) (hk : k < 4) (e : q ≠ k) (hc : c.2.1 9 j = nI k) (h9 : c.2.1 9 m = nI q) : m ≠ j ∧ (leftC c j k lf).2.1 9 m = nI q ∧ (leftC c j k lf).2.1 10 m = c.2.1 10 m := by
  have hmj : m ≠ j := by
    intro em
    subst em
    exact e ((nI_eq (by omega) (by omega)).mp (h9.symm.trans hc))
  refine ⟨hmj, by rw [left9, if_neg hmj]; exact h9, left10_o hmj (Or.inl (fun z => e ((nI_eq (by omega) (by omega)).mp (h9.symm.trans z))))⟩
theorem left_back {c : CS} {j k lf q m : Nat} (hq : q < 4) (h9 : (leftC c j k lf).2.1 9 m = nI q) : c.2.1 9 m = nI q := by
  rw [left9] at h9
  by_cases z : m = j
  · rw [if_pos z] at h9
    exact absurd h9 (neg9_ne hq)
  · rw [if_neg z] at h9
    exact h9
theorem left_rowo {c : CS} {N j k lf q : Nat} (hq : q < 4) (hk : k < 4) (e : q ≠ k) (hc : c.2.1 9 j = nI k) (h : InvR c N q) : InvR (leftC c j k lf) N q := by
  obtain ⟨n, n1, n2, n3, n4⟩ := h
  refine ⟨n, n1, fun i hi => ?_, fun m hm h9 => ?_, fun m m' hm hm' h9 h9' y => ?_⟩
  · obtain ⟨m, m1, m2, m3⟩ := n2 i hi
    obtain ⟨-, o2, o3⟩ := left_oth (lf := lf) hq hk e hc m2
    exact ⟨m, m1, o2, by rw [o3]; exact m3⟩
  · have b := left_back hq h9
    rw [(left_oth (lf := lf) hq hk e hc b).2.2]
    exact n3 m hm b
  · have b := left_back hq h9
    have b' := left_back hq h9'
    rw [(left_oth (lf := lf) hq hk e hc b).2.2, (left_oth (lf := lf) hq hk e hc b').2.2] at y
    rw [(left_oth (lf := lf) hq hk e hc b).2.2]
    exact n4 m m' hm hm' b b' y
theorem kct_oth {c : CS} {j k lf q : Nat} (hq : q < 4) (hk : k < 4) (e : q ≠ k) (hc : c.2.1 9 j = nI k) : kct (leftC c j k lf) q = kct c q := by
  refine fb_ct_cong (fun m _ => ?_)
  by_cases h9 : c.2.1 9 m = nI q
  · obtain ⟨-, o2, o3⟩ := left_oth (lf := lf) hq hk e hc h9
    rw [o2, o3, h9]
  · have : ¬ (leftC c j k lf).2.1 9 m = nI q := fun z => h9 (left_back hq z)
    rw [decide_eq_false (fun z => this z.1), decide_eq_false (fun z => h9 z.1)]
theorem dpl_out {c : CS} {k lf m : Nat} (h : 12 ≤ m) : dpl c k lf 12 m = c.2.1 10 m := by
  unfold dpl
  rw [if_neg (by omega)]
theorem Can_off {c : CS} {j : Nat} (h : Can c) (hj : j < 12) : Can (offC c j) := Can_up (k := 10) (Can_up (k := 9) h (by omega) hj) (by omega) hj
theorem Can_left {c : CS} {j k lf : Nat} (h : Can c) (hj : j < 12) : Can (leftC c j k lf) :=
  Can_cA (Can_off h hj) (by omega) (fun m hm => by
    have hm : 12 ≤ m := hm
    rw [dpl_out hm]
    exact (Can_off h hj).2.1 10 m (Or.inr hm))
theorem left_DF {c : CS} {j k lf : Nat} {x : Int32} (hlf : lf ≤ 12) (h4 : ∀ m, m < 12 → m ≠ j → c.2.1 9 m = nI k → ¬ c.2.1 10 m ≤ nI lf → c.2.1 10 m - 1 = 0 → x = nI m) : DF c (leftC c j k lf) j x := by
  refine ⟨rfl, fun a a1 a2 a3 => ?_, rfl, rfl, fun m hm h0 => ?_, fun m hm12 hm h0 => ?_⟩
  · show (if a = 10 then _ else (if a = 10 then _ else (if a = 9 then _ else c.2.1 a))) = _
    rw [if_neg a3, if_neg a3, if_neg a2]
  · rw [left10_o hm (Or.inr (by rw [h0]; exact (nle_s (i := 0) (by omega) (by omega)).mpr (by omega)))]
    exact h0
  · by_cases z : c.2.1 9 m = nI k ∧ ¬ c.2.1 10 m ≤ nI lf
    · rw [left10_s hm hm12 z.1 z.2] at h0
      exact Or.inr (h4 m hm12 hm z.1 z.2 h0)
    · left
      rw [left10_o hm ?_] at h0
      · exact h0
      · by_cases y : c.2.1 9 m = nI k
        · exact Or.inr (Classical.not_not.mp (fun q => z ⟨y, q⟩))
        · exact Or.inl y
/-- the count of the kept, when j leaves and nobody or q comes up -/
theorem kct_less {c c' : CS} {j k : Nat} (hj : j < 12) (hk : k < 4) (hc : c.2.1 9 j = nI k) (h0 : c.2.1 10 j = 0) (h9 : c'.2.1 9 j = -9) (h : ∀ m, m < 12 → m ≠ j → ((c'.2.1 9 m = nI k ∧ c'.2.1 10 m = 0) ↔ (c.2.1 9 m = nI k ∧ c.2.1 10 m = 0))) : kct c' k + 1 = kct c k := by
  have e := fb_ct_upd (fun m => decide (c.2.1 9 m = nI k ∧ c.2.1 10 m = 0)) false (i := j) (n := 12) hj
  have e2 : kct c' k = fb_ct (fun m => if m = j then false else decide (c.2.1 9 m = nI k ∧ c.2.1 10 m = 0)) 12 := by
    refine fb_ct_cong (fun m hm => ?_)
    by_cases z : m = j
    · subst z
      rw [if_pos rfl, h9]
      exact decide_eq_false (fun y => neg9_ne hk y.1)
    · rw [if_neg z]
      exact decide_eq_decide.mpr (h m hm z)
  rw [← e2] at e
  have e3 : decide (c.2.1 9 j = nI k ∧ c.2.1 10 j = 0) = true := decide_eq_true ⟨hc, h0⟩
  simp only [e3, if_true, Bool.false_eq_true, if_false] at e
  exact e
theorem drop_base {c : CS} {w N j k : Nat} (h : Base c w N) (hj : j < N) (hk : k < 4) (hc : c.2.1 9 j = nI k) : ∃ (x : Int32) (c' : CS), (x = -9 ∨ ∃ q, q < N ∧ q ≠ j ∧ x = nI q ∧ c'.2.1 9 q = nI k ∧ c'.2.1 10 q = 0 ∧ ¬ c.2.1 10 q = 0) ∧ Base c' w N ∧ DF c c' j x ∧ ∀ Post : Int32 → CS → Prop, Post x c' → wp_Hmp_drop c (nI j) (nI k) Post := by
  have hN : N ≤ 12 := h.2.1.2.1
  have hj12 : j < 12 := by omega
  obtain ⟨⟨hp, s, s1, s2⟩, n, n1, n2, n3, n4⟩ := h.2.2.2.2 k hk
  have nat : ∀ m, m < 12 → c.2.1 9 m = nI k → ∃ a, a ≤ n ∧ c.2.1 10 m = nI a := fun m hm h9 => by
    rcases n3 m hm h9 with z | ⟨i, z1, z2⟩
    · exact ⟨0, by omega, z⟩
    · exact ⟨i + 1, by omega, z2⟩
  obtain ⟨lf, l1, l2⟩ := nat j hj12 hc
  have zero : ∀ a, a ≤ 12 → (nI a = 0 ↔ a = 0) := fun a ha => nI_eq (b := 0) (by omega) (by omega)
  -- what every leaving has in common
  have com : ∀ c' : CS, c'.1 = c.1 → (∀ a, a ≠ 8 → c'.2.1 a = (leftC c j k lf).2.1 a) → c'.2.2 = c.2.2 → Can c' → (∃ s, c'.2.1 8 k = nI s ∧ s + kct c' k ≤ 21) → (∀ q, q ≠ k → c'.2.1 8 q = c.2.1 8 q) → Base c' w N := by
    intro c' e1 e2 e3 cc e8 e8o
    have d2 : ∀ a, a ≠ 8 → a ≠ 9 → a ≠ 10 → c'.2.1 a = c.2.1 a := fun a a1 a2 a3 => by
      rw [e2 a a1]
      show (if a = 10 then _ else (if a = 10 then _ else (if a = 9 then _ else c.2.1 a))) = _
      rw [if_neg a3, if_neg a3, if_neg a2]
    have k9 : ∀ m, m < 12 → c'.2.1 9 m = (leftC c j k lf).2.1 9 m := fun m _ => by rw [e2 9 (by omega)]
    have k10 : ∀ m, m < 12 → c'.2.1 10 m = (leftC c j k lf).2.1 10 m := fun m _ => by rw [e2 10 (by omega)]
    refine Base_rows h cc e1 d2 e3 (fun m hm => ?_) (fun m h1 h2 => ?_) (fun q hq => ?_)
    · rw [k9 m hm, k10 m hm]
      by_cases z : m = j
      · subst z
        exact Or.inl ⟨by rw [left9, if_pos rfl], left10_j hk⟩
      · rw [left9, if_neg z]
        rcases (h.2.2.1 m hm).2.2.2.2.1 with y | y
        · left
          refine ⟨y.1, ?_⟩
          rw [left10_o z (Or.inl (fun x => neg9_ne hk (y.1.symm.trans x)))]
          exact y.2
        · exact Or.inr y
    · rw [k9 m h2, left9, if_neg (by omega)]
      exact (h.2.2.2.1 m h1 h2).2.2.2.2.1
    · by_cases e : q = k
      · subst e
        exact ⟨e8, InvR_eq (left_row hj12 hk hc l2 l1 n1 n2 n3 n4 hN) (Nat.le_refl N) hN k9 k10⟩
      · refine ⟨?_, InvR_eq (left_rowo hq hk e hc (h.2.2.2.2 q hq).2) (Nat.le_refl N) hN k9 k10⟩
        rw [e8o q e, kct_eq k9 k10, kct_oth hq hk e hc]
        exact (h.2.2.2.2 q hq).1.2
  have kp : ∀ m, m < 12 → m ≠ j → (((leftC c j k lf).2.1 9 m = nI k ∧ (leftC c j k lf).2.1 10 m = 0) ↔ (c.2.1 9 m = nI k ∧ ∃ a, a ≤ n ∧ c.2.1 10 m = nI a ∧ (if lf < a then a - 1 else a) = 0)) := by
    intro m hm hmj
    rw [left9, if_neg hmj]
    constructor
    · rintro ⟨z1, z2⟩
      obtain ⟨a, a1, a2⟩ := nat m hm z1
      rw [left_pl hm hmj z1 (by omega) (by omega) a2] at z2
      exact ⟨z1, a, a1, a2, (zero _ (by split <;> omega)).mp z2⟩
    · rintro ⟨z1, a, a1, a2, a3⟩
      refine ⟨z1, ?_⟩
      rw [left_pl hm hmj z1 (by omega) (by omega) a2, a3]
      rfl
  have hcan := Can_left (k := k) (lf := lf) h.1 hj12
  rcases Nat.eq_zero_or_pos lf with hl0 | hl0
  · have hp0 : c.2.1 10 j = 0 := by rw [l2, hl0]; rfl
    have pwf : ∀ m, m < 12 → PW c k 0 m → c.2.1 9 m = nI k ∧ c.2.1 10 m = nI 1 := fun m _ hpw => ⟨hpw.1, sub1 hpw.2.2⟩
    rcases Nat.eq_zero_or_pos n with hn0 | hn0
    · -- nobody waits
      have none : ∀ m, m < 12 → ¬ PW c k 0 m := fun m hm hpw => by
        obtain ⟨a, a1, a2⟩ := nat m hm hpw.1
        have := (nI_eq (by omega) (by omega)).mp (a2.symm.trans (pwf m hm hpw).2)
        omega
      have kc : kct (leftC c j k lf) k + 1 = kct c k := kct_less hj12 hk hc hp0 (by rw [left9, if_pos rfl]) (fun m hm hmj => by
        rw [kp m hm hmj]
        constructor
        · rintro ⟨z1, a, a1, a2, a3⟩
          exact ⟨z1, by rw [a2, show a = 0 by omega]; rfl⟩
        · rintro ⟨z1, z2⟩
          exact ⟨z1, 0, by omega, z2, by rw [if_neg (by omega)]⟩)
      have k8 : (cA (leftC c j k lf) 8 (upd (c.2.1 8) k (c.2.1 8 k + 1))).2.1 8 = upd (c.2.1 8) k (c.2.1 8 k + 1) := rfl
      refine ⟨-9, cA (leftC c j k lf) 8 (upd (c.2.1 8) k (c.2.1 8 k + 1)), Or.inl rfl, com _ rfl (fun a ha => ?_) rfl (Can_up (k := 8) hcan (by omega) (by show k < 4; omega)) ⟨s + 1, ?_, ?_⟩ (fun q hq => ?_), ?_, fun Post q => k_drop hj12 hk l2 (by omega) ⟨fun _ P hP => k_mir (fun m hm hpw _ => absurd hpw (none m hm)) (fun _ => hP), fun z => absurd hl0 z⟩ (by rw [if_pos ⟨hl0, rfl⟩]; exact q)⟩
      · show (if a = 8 then _ else (leftC c j k lf).2.1 a) = _
        rw [if_neg ha]
      · rw [k8, upd_s, s1, nI_1]
      · have : kct (cA (leftC c j k lf) 8 (upd (c.2.1 8) k (c.2.1 8 k + 1))) k = kct (leftC c j k lf) k := rfl
        rw [this]
        omega
      · rw [k8, upd_o hq]
      · obtain ⟨e1, e2, e3, e4, e5, e6⟩ := left_DF (c := c) (j := j) (k := k) (lf := lf) (x := -9) (by omega) (fun m hm hmj h9 h10 => by
          obtain ⟨a, a1, a2⟩ := nat m hm h9
          rw [a2, nle_s (by omega) (by omega)] at h10
          omega)
        refine ⟨e1, fun a a1 a2 a3 => ?_, e3, e4, e5, e6⟩
        show (if a = 8 then _ else (leftC c j k lf).2.1 a) = _
        rw [if_neg a1]
        exact e2 a a1 a2 a3
    · -- the first who waits comes up
      obtain ⟨q, q1, q2, q3⟩ := n2 0 hn0
      have hqj : q ≠ j := fun e => by
        rw [e, hp0] at q3
        exact absurd q3.symm (ne0 (by omega))
      have q12 : q < 12 := by omega
      have uq : ∀ m, m < 12 → c.2.1 9 m = nI k → c.2.1 10 m = nI 1 → m = q := fun m hm h9 h10 => by
        rcases n4 m q hm q12 h9 q2 (h10.trans q3.symm) with z | z
        · rw [h10] at z
          exact absurd z (ne0 (i := 0) (by omega))
        · exact z
      have hq10 : (leftC c j k lf).2.1 10 q = 0 := by
        rw [left_pl q12 hqj q2 (a := 1) (by omega) (by omega) q3, if_pos (by omega)]
        rfl
      have kc : kct (leftC c j k lf) k = kct c k := by
        have e1 := fb_ct_upd (fun m => decide (c.2.1 9 m = nI k ∧ c.2.1 10 m = 0)) false (i := j) (n := 12) hj12
        have e2 := fb_ct_upd (fun m => if m = j then false else decide (c.2.1 9 m = nI k ∧ c.2.1 10 m = 0)) true (i := q) (n := 12) q12
        have e3 : kct (leftC c j k lf) k = fb_ct (fun m => if m = q then true else if m = j then false else decide (c.2.1 9 m = nI k ∧ c.2.1 10 m = 0)) 12 := by
          refine fb_ct_cong (fun m hm => ?_)
          by_cases z : m = j
          · subst z
            rw [if_neg (fun y => hqj y.symm), if_pos rfl]
            exact decide_eq_false (fun y => neg9_ne hk (by rw [left9, if_pos rfl] at y; exact y.1))
          · by_cases y : m = q
            · rw [if_pos y]
              refine decide_eq_true ((kp m hm z).mpr ?_)
              rw [y]
              exact ⟨q2, 1, by omega, q3, by rw [if_pos (by omega)]⟩
            · rw [if_neg y, if_neg z]
              refine decide_eq_decide.mpr ((kp m hm z).trans ⟨?_, ?_⟩)
              · rintro ⟨z1, a, a1, a2, a3⟩
                refine ⟨z1, ?_⟩
                have : a ≠ 1 := fun ea => y (uq m hm z1 (by rw [a2, ea]))
                have : a = 0 := by
                  by_cases x : lf < a
                  · rw [if_pos x] at a3
                    omega
                  · rw [if_neg x] at a3
                    exact a3
                rw [a2, this]
                rfl
              · rintro ⟨z1, z2⟩
                exact ⟨z1, 0, by omega, z2, by rw [if_neg (by omega)]⟩
        have x1 : decide (c.2.1 9 j = nI k ∧ c.2.1 10 j = 0) = true := decide_eq_true ⟨hc, hp0⟩
        have x2 : decide (c.2.1 9 q = nI k ∧ c.2.1 10 q = 0) = false := decide_eq_false (fun y => by rw [q3] at y; exact absurd y.2 (ne0 (i := 0) (by omega)))
        rw [← e3] at e2
        simp only [x1, x2, if_neg hqj, if_true, Bool.false_eq_true, if_false] at e1 e2
        unfold kct at *
        omega
      refine ⟨nI q, leftC c j k lf, Or.inr ⟨q, q1, hqj, rfl, by rw [left9, if_neg hqj]; exact q2, hq10, by rw [q3]; exact ne0 (by omega)⟩, com _ rfl (fun _ _ => rfl) rfl hcan ⟨s, s1, by rw [kc]; exact s2⟩ (fun _ _ => rfl), left_DF (by omega) (fun m hm hmj h9 _ h10 => by rw [uq m hm h9 (sub1 h10)]), fun Post y => k_drop hj12 hk l2 (by omega) ⟨fun _ P hP => k_mir (fun m hm hpw _ => ?_) (fun hn => absurd ⟨q2, by rw [q3]; exact le0_pos (i := 0) (by omega), by rw [q3]; rfl⟩ (hn q q12)), fun z => absurd hl0 z⟩ (by rw [if_neg (fun z => neg9_ne' z.2)]; exact y)⟩
      rw [uq m hm (pwf m hm hpw).1 (pwf m hm hpw).2]
      exact hP
  · -- one who waits goes
    have kc : kct (leftC c j k lf) k = kct c k := by
      refine fb_ct_cong (fun m hm => ?_)
      by_cases z : m = j
      · subst z
        rw [decide_eq_false (fun y => neg9_ne hk (by rw [left9, if_pos rfl] at y; exact y.1)), decide_eq_false (fun y => by rw [l2] at y; exact absurd ((zero lf (by omega)).mp y.2) (by omega))]
      · refine decide_eq_decide.mpr ((kp m hm z).trans ⟨?_, ?_⟩)
        · rintro ⟨z1, a, a1, a2, a3⟩
          refine ⟨z1, ?_⟩
          have : a = 0 := by
            by_cases x : lf < a
            · rw [if_pos x] at a3
              omega
            · rw [if_neg x] at a3
              exact a3
          rw [a2, this]
          rfl
        · rintro ⟨z1, z2⟩
          exact ⟨z1, 0, by omega, z2, by rw [if_neg (by omega)]⟩
    refine ⟨-9, leftC c j k lf, Or.inl rfl, com _ rfl (fun _ _ => rfl) rfl hcan ⟨s, s1, by rw [kc]; exact s2⟩ (fun _ _ => rfl), left_DF (by omega) (fun m hm hmj h9 h10 h11 => ?_), fun Post y => k_drop hj12 hk l2 (by omega) ⟨fun z => absurd z (by omega), fun _ => rfl⟩ (by rw [if_neg (fun z => by omega)]; exact y)⟩
    obtain ⟨a, a1, a2⟩ := nat m hm h9
    rw [a2, nle_s (by omega) (by omega)] at h10
    rw [a2] at h11
    have h12 : nI a = nI 1 := sub1 (y := nI 0) h11
    have := (nI_eq (by omega) (by omega)).mp h12
    omega
def putC0 (c : CS) (j k : Nat) : CS := cA (cA (cA c 8 (upd (c.2.1 8) k (c.2.1 8 k - 1))) 9 (upd (c.2.1 9) j (nI k))) 10 (upd (c.2.1 10) j 0)
def putCn (c : CS) (j k n : Nat) : CS := cA (cA c 9 (upd (c.2.1 9) j (nI k))) 10 (upd (c.2.1 10) j (nI (n + 1)))
theorem k_put {c : CS} {j k n : Nat} {Post : Int32 → CS → Prop} (hj : j < 12) (hk : k < 4) (hn : fb_ct (pw c k) 12 = n) (h : if c.2.1 8 k ≤ 0 then Post (nI (n + 1)) (putCn c j k n) else Post 0 (putC0 c j k)) : wp_Hmp_put c (nI j) (nI k) Post := by
  have hin : vp_in (nI j) 12 := vp_in_nI hj (by omega)
  have hik : vp_in (nI k) 4 := vp_in_nI hk (by omega)
  unfold wp_Hmp_put
  simp only [nI_clamp (show j < 2 ^ 31 by omega), nI_clamp (show k < 2 ^ 31 by omega), forall_eq]
  refine ⟨hik, fun q => k_rowLength ?_, fun q => ⟨hik, hik, hin, hin, ?_⟩⟩
  · rw [if_pos q] at h
    rw [hn, nI_1]
    exact ⟨hin, hin, h⟩
  · rw [if_neg q] at h
    exact h
/-- what a putting leaves as it was -/
def PF (c c' : CS) : Prop := c'.1 = c.1 ∧ (∀ a, a ≠ 8 → a ≠ 9 → a ≠ 10 → c'.2.1 a = c.2.1 a) ∧ c'.2.2 = c.2.2
theorem DF.pf {c c' : CS} {j : Nat} {x : Int32} (h : DF c c' j x) : PF c c' := ⟨h.1, h.2.1, h.2.2.1⟩
theorem PF.trans {a b c : CS} (h : PF a b) (g : PF b c) : PF a c := ⟨g.1.trans h.1, fun k k1 k2 k3 => (g.2.1 k k1 k2 k3).trans (h.2.1 k k1 k2 k3), g.2.2.trans h.2.2⟩
/-- the row's members, by place -/
theorem row_f {c : CS} {N k n : Nat} (n1 : n ≤ 12) (n2 : ∀ i, i < n → ∃ m, m < N ∧ c.2.1 9 m = nI k ∧ c.2.1 10 m = nI (i + 1)) : ∃ f : Nat → Nat, (∀ i, i < n → f i < N ∧ c.2.1 9 (f i) = nI k ∧ c.2.1 10 (f i) = nI (i + 1)) ∧ ∀ i j, i < n → j < n → f i = f j → i = j := by
  have hx : ∀ i, ∃ m, i < n → m < N ∧ c.2.1 9 m = nI k ∧ c.2.1 10 m = nI (i + 1) := by
    intro i
    by_cases h : i < n
    · obtain ⟨m, hm⟩ := n2 i h
      exact ⟨m, fun _ => hm⟩
    · exact ⟨0, fun z => absurd z h⟩
  refine ⟨fun i => Classical.choose (hx i), fun i hi => Classical.choose_spec (hx i) hi, fun i j hi hj e => ?_⟩
  have a := (Classical.choose_spec (hx i) hi).2.2
  have b := (Classical.choose_spec (hx j) hj).2.2
  have e' : Classical.choose (hx i) = Classical.choose (hx j) := e
  rw [e'] at a
  have := (nI_eq (by omega) (by omega)).mp (a.symm.trans b)
  omega
theorem row_count {c : CS} {N k n : Nat} (hN : N ≤ 12) (n1 : n ≤ 12) (n2 : ∀ i, i < n → ∃ m, m < N ∧ c.2.1 9 m = nI k ∧ c.2.1 10 m = nI (i + 1)) (n3 : ∀ m, m < 12 → c.2.1 9 m = nI k → c.2.1 10 m = 0 ∨ ∃ i, i < n ∧ c.2.1 10 m = nI (i + 1)) (n4 : ∀ m m', m < 12 → m' < 12 → c.2.1 9 m = nI k → c.2.1 9 m' = nI k → c.2.1 10 m = c.2.1 10 m' → c.2.1 10 m = 0 ∨ m = m') : fb_ct (pw c k) 12 = n := by
  obtain ⟨f, f1, f2⟩ := row_f n1 n2
  refine ct_bij n 12 _ f (fun i hi => ?_) f2 (fun m hm hp => ?_)
  · obtain ⟨a1, a3, a4⟩ := f1 i hi
    refine ⟨by omega, ?_⟩
    unfold pw
    exact decide_eq_true ⟨a3, by rw [a4]; exact le0_pos (by omega)⟩
  · unfold pw at hp
    obtain ⟨p1, p2⟩ := of_decide_eq_true hp
    rcases n3 m hm p1 with z | ⟨i, z1, z2⟩
    · exact absurd (by rw [z]; decide) p2
    · refine ⟨i, z1, ?_⟩
      obtain ⟨a1, a3, a4⟩ := f1 i z1
      rcases n4 (f i) m (by omega) hm a3 p1 (a4.trans z2.symm) with y | y
      · rw [a4] at y
        exact absurd y (ne0 (by omega))
      · exact y
theorem row_room {c : CS} {N k n j : Nat} (hN : N ≤ 12) (n1 : n ≤ 12) (hj : j < 12) (hc : ¬ c.2.1 9 j = nI k) (n2 : ∀ i, i < n → ∃ m, m < N ∧ c.2.1 9 m = nI k ∧ c.2.1 10 m = nI (i + 1)) : n + 1 ≤ 12 := by
  obtain ⟨f, f1, f2⟩ := row_f n1 n2
  refine fb_holes 12 (n + 1) (fun i => if i < n then f i else j) (fun i hi => ?_) (fun a b hab hb => ?_)
  · by_cases z : i < n
    · rw [if_pos z]
      have := (f1 i z).1
      omega
    · rw [if_neg z]
      exact hj
  · rw [if_pos (show a < n by omega)]
    by_cases z : b < n
    · rw [if_pos z]
      intro e
      have := f2 a b (by omega) z e
      omega
    · rw [if_neg z]
      intro e
      have := (f1 a (by omega)).2.1
      rw [e] at this
      exact hc this
theorem put_base {c : CS} {w N j k : Nat} (h : Base c w N) (hj : j < N) (hk : k < 4) (hc : c.2.1 9 j = -9) : ∃ (x : Int32) (c' : CS), 0 ≤ x ∧ Base c' w N ∧ PF c c' ∧ ∀ Post : Int32 → CS → Prop, Post x c' → wp_Hmp_put c (nI j) (nI k) Post := by
  have hN : N ≤ 12 := h.2.1.2.1
  have hj12 : j < 12 := by omega
  obtain ⟨⟨hp, s, s1, s2⟩, n, n1, n2, n3, n4⟩ := h.2.2.2.2 k hk
  have hne : ∀ q, q < 4 → ¬ c.2.1 9 j = nI q := fun q hq z => neg9_ne hq (hc.symm.trans z)
  have hcnt := row_count hN n1 n2 n3 n4
  have hroom := row_room hN n1 hj12 (hne k hk) n2
  by_cases hs : c.2.1 8 k ≤ 0
  · refine ⟨nI (n + 1), putCn c j k n, nI_nn (by omega), ?_, ⟨rfl, fun a a1 a2 a3 => ?_, rfl⟩, fun Post q => k_put hj12 hk hcnt (by rw [if_pos hs]; exact q)⟩
    · have c9 : ∀ m, (putCn c j k n).2.1 9 m = if m = j then nI k else c.2.1 9 m := fun m => rfl
      have c10 : ∀ m, (putCn c j k n).2.1 10 m = if m = j then nI (n + 1) else c.2.1 10 m := fun m => rfl
      have c8 : (putCn c j k n).2.1 8 = c.2.1 8 := rfl
      have oth : ∀ q m, q < 4 → q ≠ k → (putCn c j k n).2.1 9 m = nI q → m ≠ j ∧ c.2.1 9 m = nI q := fun q m hq e h9 => by
        rw [c9] at h9
        by_cases z : m = j
        · rw [if_pos z] at h9
          exact absurd ((nI_eq (by omega) (by omega)).mp h9).symm e
        · rw [if_neg z] at h9
          exact ⟨z, h9⟩
      refine Base_rows h (Can_up (k := 10) (Can_up (k := 9) h.1 (by omega) hj12) (by omega) hj12) rfl (fun a a1 a2 a3 => ?_) rfl (fun m hm => ?_) (fun m h1 h2 => ?_) (fun q hq => ?_)
      · show (if a = 10 then _ else (if a = 9 then _ else c.2.1 a)) = _
        rw [if_neg a3, if_neg a2]
      · rw [c9, c10]
        by_cases e : m = j
        · rw [if_pos e, if_pos e]
          exact Or.inr ⟨k, hk, rfl⟩
        · rw [if_neg e, if_neg e]
          exact (h.2.2.1 m hm).2.2.2.2.1
      · rw [c9, if_neg (by omega)]
        exact (h.2.2.2.1 m h1 h2).2.2.2.2.1
      · have kc : kct (putCn c j k n) q = kct c q := by
          refine fb_ct_cong (fun m hm => ?_)
          rw [c9, c10]
          by_cases e : m = j
          · rw [if_pos e, if_pos e, decide_eq_false (fun z => absurd z.2 (ne0 (by omega))), decide_eq_false (fun z => by rw [e] at z; exact hne q hq z.1)]
          · rw [if_neg e, if_neg e]
        rw [c8, kc]
        refine ⟨(h.2.2.2.2 q hq).1.2, ?_⟩
        by_cases e : q = k
        · subst e
          refine ⟨n + 1, hroom, fun i hi => ?_, fun m hm h9 => ?_, fun m m' hm hm' h9 h9' y => ?_⟩
          · by_cases z : i < n
            · obtain ⟨m, m1, m2, m3⟩ := n2 i z
              have hmj : m ≠ j := fun em => hne q hq (by rw [← em]; exact m2)
              exact ⟨m, m1, by rw [c9, if_neg hmj]; exact m2, by rw [c10, if_neg hmj]; exact m3⟩
            · have : i = n := by omega
              subst this
              exact ⟨j, hj, by rw [c9, if_pos rfl], by rw [c10, if_pos rfl]⟩
          · rw [c9] at h9
            rw [c10]
            by_cases hmj : m = j
            · rw [if_pos hmj]
              exact Or.inr ⟨n, by omega, rfl⟩
            · rw [if_neg hmj] at h9 ⊢
              rcases n3 m hm h9 with z | ⟨i, z1, z2⟩
              · exact Or.inl z
              · exact Or.inr ⟨i, by omega, z2⟩
          · rw [c9] at h9 h9'
            rw [c10, c10] at y
            rw [c10]
            have far : ∀ m, m < 12 → c.2.1 9 m = nI q → ¬ c.2.1 10 m = nI (n + 1) := fun m hm h9 h10 => by
              rcases n3 m hm h9 with z | ⟨i, z1, z2⟩
              · exact absurd (h10.symm.trans z) (ne0 (by omega))
              · have := (nI_eq (by omega) (by omega)).mp (h10.symm.trans z2)
                omega
            by_cases e1 : m = j
            · by_cases e2 : m' = j
              · exact Or.inr (e1.trans e2.symm)
              · rw [if_pos e1, if_neg e2] at y
                rw [if_neg e2] at h9'
                exact absurd y.symm (far m' hm' h9')
            · rw [if_neg e1] at h9 y ⊢
              by_cases e2 : m' = j
              · rw [if_pos e2] at y
                exact absurd y (far m hm h9)
              · rw [if_neg e2] at h9' y
                exact n4 m m' hm hm' h9 h9' y
        · obtain ⟨n', d1, d2, d3, d4⟩ := (h.2.2.2.2 q hq).2
          refine ⟨n', d1, fun i hi => ?_, fun m hm h9 => ?_, fun m m' hm hm' h9 h9' y => ?_⟩
          · obtain ⟨m, m1, m2, m3⟩ := d2 i hi
            have hmj : m ≠ j := fun em => hne q hq (by rw [← em]; exact m2)
            exact ⟨m, m1, by rw [c9, if_neg hmj]; exact m2, by rw [c10, if_neg hmj]; exact m3⟩
          · obtain ⟨o1, o2⟩ := oth q m hq e h9
            rw [c10, if_neg o1]
            exact d3 m hm o2
          · obtain ⟨o1, o2⟩ := oth q m hq e h9
            obtain ⟨o3, o4⟩ := oth q m' hq e h9'
            rw [c10, c10, if_neg o1, if_neg o3] at y
            rw [c10, if_neg o1]
            exact d4 m m' hm hm' o2 o4 y
    · show (if a = 10 then _ else (if a = 9 then _ else c.2.1 a)) = _
      rw [if_neg a3, if_neg a2]
  · have hs0 : 0 < s := by
      rcases Nat.eq_zero_or_pos s with z | z
      · exact absurd (by rw [s1, z]; decide) hs
      · exact z
    refine ⟨0, putC0 c j k, by decide, ?_, ⟨rfl, fun a a1 a2 a3 => ?_, rfl⟩, fun Post q => k_put hj12 hk hcnt (by rw [if_neg hs]; exact q)⟩
    · have c9 : ∀ m, (putC0 c j k).2.1 9 m = if m = j then nI k else c.2.1 9 m := fun m => rfl
      have c10 : ∀ m, (putC0 c j k).2.1 10 m = if m = j then 0 else c.2.1 10 m := fun m => rfl
      have c8 : ∀ q, (putC0 c j k).2.1 8 q = if q = k then c.2.1 8 k - 1 else c.2.1 8 q := fun q => rfl
      have p10 : c.2.1 10 j = 0 := by
        rcases (h.2.2.1 j hj12).2.2.2.2.1 with y | ⟨q, y1, y2⟩
        · exact y.2
        · exact absurd y2 (hne q y1)
      have e10 : ∀ m, (putC0 c j k).2.1 10 m = c.2.1 10 m := fun m => by
        rw [c10]
        by_cases z : m = j
        · rw [if_pos z, z, p10]
        · rw [if_neg z]
      refine Base_rows h (Can_up (k := 10) (Can_up (k := 9) (Can_up (k := 8) h.1 (by omega) (show k < 4 by omega)) (by omega) hj12) (by omega) hj12) rfl (fun a a1 a2 a3 => ?_) rfl (fun m hm => ?_) (fun m h1 h2 => ?_) (fun q hq => ?_)
      · show (if a = 10 then _ else (if a = 9 then _ else (if a = 8 then _ else c.2.1 a))) = _
        rw [if_neg a3, if_neg a2, if_neg a1]
      · rw [c9, e10]
        by_cases e : m = j
        · rw [if_pos e]
          exact Or.inr ⟨k, hk, rfl⟩
        · rw [if_neg e]
          exact (h.2.2.1 m hm).2.2.2.2.1
      · rw [c9, if_neg (by omega)]
        exact (h.2.2.2.1 m h1 h2).2.2.2.2.1
      · by_cases e : q = k
        · subst e
          refine ⟨⟨s - 1, by rw [c8, if_pos rfl, s1, show s = s - 1 + 1 by omega, nI_m1]; rfl, ?_⟩, n, n1, fun i hi => ?_, fun m hm h9 => ?_, fun m m' hm hm' h9 h9' y => ?_⟩
          · have e1 := fb_ct_upd (fun m => decide (c.2.1 9 m = nI q ∧ c.2.1 10 m = 0)) true (i := j) (n := 12) hj12
            have e2 : kct (putC0 c j q) q = fb_ct (fun m => if m = j then true else decide (c.2.1 9 m = nI q ∧ c.2.1 10 m = 0)) 12 := by
              refine fb_ct_cong (fun m hm => ?_)
              rw [c9, e10]
              by_cases z : m = j
              · rw [if_pos z, if_pos z, z]
                exact decide_eq_true ⟨rfl, p10⟩
              · rw [if_neg z, if_neg z]
            have x1 : decide (c.2.1 9 j = nI q ∧ c.2.1 10 j = 0) = false := decide_eq_false (fun z => hne q hq z.1)
            rw [← e2] at e1
            simp only [x1, if_true, Bool.false_eq_true, if_false] at e1
            unfold kct at *
            omega
          · obtain ⟨m, m1, m2, m3⟩ := n2 i hi
            have hmj : m ≠ j := fun em => hne q hq (by rw [← em]; exact m2)
            exact ⟨m, m1, by rw [c9, if_neg hmj]; exact m2, by rw [e10]; exact m3⟩
          · rw [c9] at h9
            rw [e10]
            by_cases hmj : m = j
            · exact Or.inl (by rw [hmj]; exact p10)
            · rw [if_neg hmj] at h9
              exact n3 m hm h9
          · rw [c9] at h9 h9'
            rw [e10, e10] at y
            rw [e10]
            by_cases e1 : m = j
            · exact Or.inl (by rw [e1]; exact p10)
            · by_cases e2 : m' = j
              · rw [e2, p10] at y
                exact Or.inl y
              · rw [if_neg e1] at h9
                rw [if_neg e2] at h9'
                exact n4 m m' hm hm' h9 h9' y
        · have back : ∀ m, (putC0 c j k).2.1 9 m = nI q → m ≠ j ∧ c.2.1 9 m = nI q := fun m h9 => by
            rw [c9] at h9
            by_cases z : m = j
            · rw [if_pos z] at h9
              exact absurd ((nI_eq (by omega) (by omega)).mp h9).symm e
            · rw [if_neg z] at h9
              exact ⟨z, h9⟩
          have kc : kct (putC0 c j k) q = kct c q := by
            refine fb_ct_cong (fun m hm => ?_)
            rw [c9, e10]
            by_cases z : m = j
            · rw [if_pos z, decide_eq_false (fun y => e ((nI_eq (by omega) (by omega)).mp y.1).symm), decide_eq_false (fun y => by rw [z] at y; exact hne q hq y.1)]
            · rw [if_neg z]
          obtain ⟨n', d1, d2, d3, d4⟩ := (h.2.2.2.2 q hq).2
          refine ⟨by rw [c8, if_neg e, kc]; exact (h.2.2.2.2 q hq).1.2, n', d1, fun i hi => ?_, fun m hm h9 => ?_, fun m m' hm hm' h9 h9' y => ?_⟩
          · obtain ⟨m, m1, m2, m3⟩ := d2 i hi
            have hmj : m ≠ j := fun em => hne q hq (by rw [← em]; exact m2)
            exact ⟨m, m1, by rw [c9, if_neg hmj]; exact m2, by rw [e10]; exact m3⟩
          · rw [e10]
            exact d3 m hm (back m h9).2
          · rw [e10, e10] at y
            rw [e10]
            exact d4 m m' hm hm' (back m h9).2 (back m' h9').2 y
    · show (if a = 10 then _ else (if a = 9 then _ else (if a = 8 then _ else c.2.1 a))) = _
      rw [if_neg a3, if_neg a2, if_neg a1]
