/-! Giving up a choice, on both sides. -/
def offC (c : CS) (j : Nat) : CS := cA (cA c 9 (upd (c.2.1 9) j (-9))) 10 (upd (c.2.1 10) j 0)
def leftC (c : CS) (j k lf : Nat) : CS := cA (offC c j) 10 (dpl (offC c j) k lf 12)
theorem off9 (c : CS) (j m : Nat) : (offC c j).2.1 9 m = if m = j then -9 else c.2.1 9 m := rfl
theorem off10 (c : CS) (j m : Nat) : (offC c j).2.1 10 m = if m = j then 0 else c.2.1 10 m := rfl
theorem left9 (c : CS) (j k lf m : Nat) : (leftC c j k lf).2.1 9 m = if m = j then -9 else c.2.1 9 m := rfl
theorem left10 (c : CS) (j k lf m : Nat) : (leftC c j k lf).2.1 10 m = dpl (offC c j) k lf 12 m := rfl
theorem neg9_ne {k : Nat} (hk : k < 4) : ¬ (-9 : Int32) = nI k := by
  intro h
  have := congrArg Int32.toInt h
  rw [nI_toInt (by omega), show (-9 : Int32).toInt = -9 from rfl] at this
  omega
theorem left10_j {c : CS} {j k lf : Nat} (hk : k < 4) : (leftC c j k lf).2.1 10 j = 0 := by
  rw [left10]
  unfold dpl
  rw [off9, if_pos rfl, if_neg (fun z => neg9_ne hk z.2.1), off10, if_pos rfl]
theorem left10_o {c : CS} {j k lf m : Nat} (hm : m ≠ j) (h : ¬ c.2.1 9 m = nI k ∨ c.2.1 10 m ≤ nI lf) : (leftC c j k lf).2.1 10 m = c.2.1 10 m := by
  rw [left10]
  unfold dpl
  rw [off9, if_neg hm, off10, if_neg hm]
  rw [if_neg (fun z => h.elim (fun q => q z.2.1) (fun q => z.2.2 q))]
theorem left10_s {c : CS} {j k lf m : Nat} (hm : m ≠ j) (h12 : m < 12) (h : c.2.1 9 m = nI k) (h2 : ¬ c.2.1 10 m ≤ nI lf) : (leftC c j k lf).2.1 10 m = c.2.1 10 m - 1 := by
  rw [left10]
  unfold dpl
  rw [off9, if_neg hm, off10, if_neg hm, if_pos ⟨h12, h, h2⟩]
/-- what a member's leaving leaves as it was -/
def DF (c c' : CS) (g g' : Nat → Int32) (j : Nat) (x : Int32) : Prop := c'.1 = c.1 ∧ (∀ a, a ≠ 8 → a ≠ 9 → a ≠ 10 → c'.2.1 a = c.2.1 a) ∧ c'.2.2 = c.2.2 ∧ c'.2.1 9 = upd (c.2.1 9) j (-9) ∧ (∀ i, i < 10 → g' i = g i) ∧ (∀ i, 226 ≤ i → g' i = g i) ∧ (∀ m v, v < 13 → v ≠ 3 → v ≠ 4 → mb g' m v = mb g m v) ∧ (∀ m, m ≠ j → c.2.1 10 m = 0 → c'.2.1 10 m = 0) ∧ (∀ m, m < 12 → m ≠ j → c'.2.1 10 m = 0 → c.2.1 10 m = 0 ∨ x = nI m)
theorem CP_of {c c' : CS} {g g' : Nat → Int32} {w N j k : Nat} {x : Int32} (h : CP c g w N) (hj : j < N) (hk : k < 4) (hc : c.2.1 9 j = nI k) (hd : DF c c' g g' j x) (h10 : c'.2.1 10 j = 0) (h3 : ∀ m, mb g' m 3 = if m = j then -9 else mb g m 3) (h4 : ∀ m, m < N → mb g' m 4 = (if ¬ c'.2.1 9 m = -9 ∧ c'.2.1 10 m = 0 then 1 else 0)) (hz : ∀ m, m < 12 → c.2.1 9 m = -9 → c'.2.1 10 m = 0) (hq : ∀ q, q < 4 → CQ c' g' N q) : CP c' g' w N := by
  obtain ⟨hG, hM, hI, hO, hQ⟩ := h
  obtain ⟨e1, e2, e3, e4, e5, e6, e7, e8, e9⟩ := hd
  have c9 : ∀ m, c'.2.1 9 m = if m = j then -9 else c.2.1 9 m := fun m => by rw [e4]; rfl
  refine ⟨?_, fun m hm => ?_, fun m hm => ?_, fun m hm1 hm2 => ?_, hq⟩
  · obtain ⟨h1, h2, h3, h4, h5, h6, h7, h8⟩ := hG
    exact ⟨h1, h2, by rw [e1]; exact h3, by rw [e5 0 (by omega)]; exact h4, by rw [e1]; exact h5, by rw [e5 1 (by omega)]; exact h6, by rw [e1]; exact h7, by rw [e5 2 (by omega), e1]; exact h8⟩
  · obtain ⟨b1, b2, b3, b4, b5, b6, b7, b8, b9, b10⟩ := hM m hm
    refine ⟨?_, ?_, ?_, ?_, h4 m hm, ?_, ?_, ?_, ?_, fun i hi => ?_⟩
    · rw [e7 m 0 (by omega) (by omega) (by omega), e2 0 (by omega) (by omega) (by omega)]; exact b1
    · rw [e7 m 1 (by omega) (by omega) (by omega), e2 1 (by omega) (by omega) (by omega)]; exact b2
    · rw [e7 m 2 (by omega) (by omega) (by omega), e2 2 (by omega) (by omega) (by omega)]; exact b3
    · rw [h3, c9, b4]
    · rw [e7 m 5 (by omega) (by omega) (by omega), e2 5 (by omega) (by omega) (by omega)]; exact b6
    · rw [e7 m 6 (by omega) (by omega) (by omega), e2 3 (by omega) (by omega) (by omega)]; exact b7
    · rw [e7 m 9 (by omega) (by omega) (by omega), e2 6 (by omega) (by omega) (by omega)]; exact b8
    · rw [e7 m 11 (by omega) (by omega) (by omega), e2 11 (by omega) (by omega) (by omega)]; exact b9
    · rw [e7 m (7 + i / 31) (by omega) (by omega) (by omega), e3]; exact b10 i hi
  · obtain ⟨⟨s, b1, b1'⟩, b2, b3, b4, b5, b6⟩ := hI m hm
    refine ⟨⟨s, ?_, ?_⟩, ?_, ?_, ?_, ?_, ?_⟩
    · rw [e2 0 (by omega) (by omega) (by omega)]; exact b1
    · rw [e3]; exact b1'
    · rw [e2 1 (by omega) (by omega) (by omega)]; exact b2
    · rw [e2 1 (by omega) (by omega) (by omega), e2 2 (by omega) (by omega) (by omega)]; exact b3
    · rw [e2 5 (by omega) (by omega) (by omega)]; exact b4
    · rw [c9]
      by_cases e : m = j
      · subst e
        exact Or.inl ⟨if_pos rfl, h10⟩
      · rw [if_neg e]
        rcases b5 with z | z
        · exact Or.inl ⟨z.1, hz m hm z.1⟩
        · exact Or.inr z
    · rw [e3]; exact b6
  · obtain ⟨o1, o2, o3, o4, o5, o6, o7, o8, o9, o10⟩ := hO m hm1 hm2
    refine ⟨?_, ?_, ?_, ?_, ?_, ?_, ?_, ?_, ?_, ?_⟩
    · rw [e2 0 (by omega) (by omega) (by omega)]; exact o1
    · rw [e2 1 (by omega) (by omega) (by omega)]; exact o2
    · rw [e2 2 (by omega) (by omega) (by omega)]; exact o3
    · rw [e2 4 (by omega) (by omega) (by omega)]; exact o4
    · rw [e2 5 (by omega) (by omega) (by omega)]; exact o5
    · rw [e2 6 (by omega) (by omega) (by omega)]; exact o6
    · rw [c9, if_neg (by omega)]; exact o7
    · exact hz m hm2 o7
    · rw [e2 11 (by omega) (by omega) (by omega)]; exact o9
    · rw [e3]; exact o10
theorem nle_s {i lf : Nat} (hi : i < 2 ^ 30) (hl : lf < 2 ^ 30) : (nI i ≤ nI lf) ↔ i ≤ lf := nI_leI (by omega) (by omega)
theorem nI_m1 (i : Nat) : nI (i + 1) - 1 = nI i := nI_pred i
theorem ne0 {i : Nat} (hi : i < 100) : ¬ nI (i + 1) = 0 := nI_ne0 (by omega) (by omega)
/-- the rows behind a leaving: place p of n is free, and who stood behind it moves up -/
theorem CQ_left {c c' : CS} {g g' : Nat → Int32} {w N j k n p lf : Nat} (h : CP c g w N) (hj : j < N) (hk : k < 4) (hc : c.2.1 9 j = nI k) (hn : n ≤ 12) (hp : p < n) (hlf : (lf = 0 ∧ p = 0 ∧ c.2.1 10 j = 0) ∨ (lf = p + 1 ∧ c.2.1 10 j = nI (p + 1))) (h2 : kd g k 2 = nI n)
    (d6 : ∀ i, i < n → ∃ m, m < N ∧ kd g k (3 + i) = nI m ∧ c.2.1 9 m = nI k ∧ c.2.1 10 m = nI (i + 1)) (d7 : ∀ m, m < 12 → c.2.1 9 m = nI k → c.2.1 10 m = 0 ∨ ∃ i, i < n ∧ c.2.1 10 m = nI (i + 1) ∧ kd g k (3 + i) = nI m)
    (hc' : c' = leftC c j k lf) (hk0 : ∀ q, q < 4 → kd g' q 0 = kd g q 0) (hk1 : ∀ q, q < 4 → kd g' q 1 = kd g q 1) (hk2 : ∀ q, q < 4 → ¬ q = k → ∀ v, v < 15 → kd g' q v = kd g q v) (hk3 : ∀ v, 2 ≤ v → v < 15 → kd g' k v = if v = 2 then nI (n - 1) else if 3 + p ≤ v ∧ v < 3 + (n - 1) then kd g k (v + 1) else kd g k v) : ∀ q, q < 4 → CQ c' g' N q := by
  subst hc'
  obtain ⟨hG, hM, hI, hO, hQ⟩ := h
  have hN : N ≤ 12 := hG.2.1
  -- a waiting member's place behind it
  have pl : ∀ m i, m < 12 → m ≠ j → c.2.1 9 m = nI k → i < n → c.2.1 10 m = nI (i + 1) → (leftC c j k lf).2.1 10 m = if lf < i + 1 then nI i else nI (i + 1) := by
    intro m i hm hmj h9 hi h10
    by_cases z : lf < i + 1
    · rw [if_pos z, left10_s hmj hm h9 (by rw [h10, nle_s (by omega) (by omega)]; omega), h10, nI_m1]
    · rw [if_neg z, left10_o hmj (Or.inr (by rw [h10, nle_s (by omega) (by omega)]; omega)), h10]
  intro q hq
  obtain ⟨d1, d2, d3, n', d4, d5, f6, f7⟩ := hQ q hq
  refine ⟨by rw [hk0 q hq]; exact d1, d2, by rw [hk1 q hq]; exact d3, ?_⟩
  by_cases e : q = k
  · subst e
    refine ⟨n - 1, by omega, by rw [hk3 2 (by omega) (by omega), if_pos rfl], fun i hi => ?_, fun m hm h9 => ?_⟩
    · have notj : ∀ i2 m, i2 < n → (lf = 0 ∨ i2 ≠ p) → c.2.1 10 m = nI (i2 + 1) → m ≠ j := by
        intro i2 m hi2 ho h10 em
        subst em
        rcases hlf with ⟨z1, z2, z3⟩ | ⟨z1, z2⟩
        · exact absurd (h10.symm.trans z3) (ne0 (by omega))
        · have := (nI_eq (by omega) (by omega)).mp (h10.symm.trans z2)
          omega
      by_cases z : i < p
      · obtain ⟨m, m1, m2, m3, m4⟩ := d6 i (by omega)
        have hmj : m ≠ j := notj i m (by omega) (Or.inr (by omega)) m4
        refine ⟨m, m1, ?_, ?_, ?_⟩
        · rw [hk3 (3 + i) (by omega) (by omega), if_neg (by omega), if_neg (by omega)]; exact m2
        · rw [left9, if_neg hmj]; exact m3
        · rw [pl m i (by omega) hmj m3 (by omega) m4, if_neg (by omega)]
      · obtain ⟨m, m1, m2, m3, m4⟩ := d6 (i + 1) (by omega)
        have hmj : m ≠ j := notj (i + 1) m (by omega) (Or.inr (by omega)) m4
        refine ⟨m, m1, ?_, ?_, ?_⟩
        · rw [hk3 (3 + i) (by omega) (by omega), if_neg (by omega), if_pos (by omega)]; exact m2
        · rw [left9, if_neg hmj]; exact m3
        · rw [pl m (i + 1) (by omega) hmj m3 (by omega) m4, if_pos (by omega)]
    · rw [left9] at h9
      by_cases hmj : m = j
      · rw [if_pos hmj] at h9
        exact absurd h9 (neg9_ne hk)
      · rw [if_neg hmj] at h9
        rcases d7 m hm h9 with z | ⟨i, z1, z2, z3⟩
        · left
          rw [left10_o hmj (Or.inr (by rw [z]; exact (nle_s (i := 0) (by omega) (by omega)).mpr (by omega)))]
          exact z
        · rw [pl m i hm hmj h9 z1 z2]
          have hip : lf = 0 ∨ i ≠ p := by
            rcases hlf with ⟨y1, y2, y3⟩ | ⟨y1, y2⟩
            · exact Or.inl y1
            · right
              intro eip
              subst eip
              obtain ⟨m', n1, n2, n3, n4⟩ := d6 i z1
              rcases d7 j (by omega) hc with y | ⟨i', y3, y4, y5⟩
              · exact absurd (y2.symm.trans y) (ne0 (by omega))
              · have : i = i' := by
                  have := (nI_eq (by omega) (by omega)).mp (y2.symm.trans y4)
                  omega
                subst this
                exact hmj ((nI_eq (by omega) (by omega)).mp (z3.symm.trans y5))
          by_cases y : lf < i + 1
          · rw [if_pos y]
            by_cases hi0 : i = 0
            · left
              rw [hi0]
              rfl
            · right
              refine ⟨i - 1, by omega, by rw [show i - 1 + 1 = i by omega], ?_⟩
              rw [hk3 (3 + (i - 1)) (by omega) (by omega), if_neg (by omega), if_pos (by omega), show 3 + (i - 1) + 1 = 3 + i by omega]
              exact z3
          · rw [if_neg y]
            right
            refine ⟨i, by omega, rfl, ?_⟩
            rw [hk3 (3 + i) (by omega) (by omega), if_neg (by omega), if_neg (by omega)]
            exact z3
  · have oth : ∀ m, c.2.1 9 m = nI q → m ≠ j ∧ (leftC c j k lf).2.1 10 m = c.2.1 10 m := by
      intro m h9
      have hmj : m ≠ j := by
        intro em
        subst em
        exact e ((nI_eq (by omega) (by omega)).mp (h9.symm.trans hc))
      refine ⟨hmj, left10_o hmj (Or.inl (fun z => e ((nI_eq (by omega) (by omega)).mp (h9.symm.trans z))))⟩
    refine ⟨n', d4, by rw [hk2 q hq e 2 (by omega)]; exact d5, fun i hi => ?_, fun m hm h9 => ?_⟩
    · obtain ⟨m, m1, m2, m3, m4⟩ := f6 i hi
      obtain ⟨o1, o2⟩ := oth m m3
      refine ⟨m, m1, by rw [hk2 q hq e (3 + i) (by omega)]; exact m2, ?_, by rw [o2]; exact m4⟩
      rw [left9, if_neg o1]; exact m3
    · rw [left9] at h9
      by_cases hmj : m = j
      · rw [if_pos hmj] at h9
        exact absurd h9 (neg9_ne hq)
      · rw [if_neg hmj] at h9
        rw [(oth m h9).2]
        rcases f7 m hm h9 with z | ⟨i, z1, z2, z3⟩
        · exact Or.inl z
        · exact Or.inr ⟨i, z1, z2, by rw [hk2 q hq e (3 + i) (by omega)]; exact z3⟩
