/-! Kinds and joining. -/
theorem ham_rel {c : CS} {g : Nat → Int32} {w N : Nat} {k pp : Nat} {s : Int32} (h : CRw c g w N) (hk : k < 4) (hp : 1 ≤ pp) (hp2 : pp ≤ 200) (hu : c.1 1 = 0) : CRw (hamC c k (nI pp) s) (hamF g k (nI pp) s) w N := by
  obtain ⟨⟨hG, hM, hI, hO, hQ⟩, ⟨⟨a1, a2, a3, a4, a5, a6, a7⟩, a8⟩, hE⟩ := h
  obtain ⟨h1, h2, h3, h4, h5, h6, h7, h8⟩ := hG
  refine ⟨⟨?_, ?_, ?_, ?_, ?_⟩, ⟨⟨?_, ?_, ?_, ?_, ?_, ?_, ?_⟩, ?_⟩, ?_⟩
  · refine ⟨h1, h2, ?_, ?_, ?_, ?_, ?_, ?_⟩ <;> simp [hamC, hamF, cS1, cS2, cA1, cA2, cA3, cL1, cL2, cL3, gl_setG, gl_setM, gl_setK, mb_setM, mb_setG, mb_setK, kd_setM, kd_setG, kd_setK, upd_if, updL_if, *]
  · intro m hm
    obtain ⟨b1, b2, b3, b4, b5, b6, b7, b8, b9, b10⟩ := hM m hm
    refine ⟨?_, ?_, ?_, ?_, ?_, ?_, ?_, ?_, ?_, fun i hi => ?_⟩
    all_goals first | (have hi7 : 7 + i / 31 < 13 := by omega); simp [hamC, hamF, cS1, cS2, cA1, cA2, cA3, cL1, cL2, cL3, gl_setG, gl_setM, gl_setK, mb_setM, mb_setG, mb_setK, kd_setM, kd_setG, kd_setK, upd_if, updL_if, *] | simp [hamC, hamF, cS1, cS2, cA1, cA2, cA3, cL1, cL2, cL3, gl_setG, gl_setM, gl_setK, mb_setM, mb_setG, mb_setK, kd_setM, kd_setG, kd_setK, upd_if, updL_if, *]
  · intro m hm
    obtain ⟨⟨s, b1, b1'⟩, b2, b3, b4, b5, b6⟩ := hI m hm
    exact ⟨⟨s, b1, b1'⟩, b2, b3, b4, b5, b6⟩
  · intro m hm1 hm2
    exact hO m hm1 hm2
  · intro q hq
    have := hQ q hq
    unfold CQ at this ⊢
    have hn : ∀ i, i < 12 → 3 + i < 15 := by omega
    obtain ⟨d1, d2, d3, n, d4, d5, d6, d7⟩ := this
    refine ⟨?_, ?_, ?_, n, d4, ?_, ?_, ?_⟩
    · by_cases e : q = k
      · simp [hamC, hamF, cS1, cS2, cA1, cA2, cA3, cL1, cL2, cL3, gl_setG, gl_setM, gl_setK, mb_setM, mb_setG, mb_setK, kd_setM, kd_setG, kd_setK, upd_if, updL_if, e]
      · simpa [hamC, hamF, cS1, cS2, cA1, cA2, cA3, cL1, cL2, cL3, gl_setG, gl_setM, gl_setK, mb_setM, mb_setG, mb_setK, kd_setM, kd_setG, kd_setK, upd_if, updL_if, e] using d1
    · by_cases e : q = k
      · exact ⟨pp, hp, hp2, by simp [hamC, hamF, cS1, cS2, cA1, cA2, cA3, cL1, cL2, cL3, gl_setG, gl_setM, gl_setK, mb_setM, mb_setG, mb_setK, kd_setM, kd_setG, kd_setK, upd_if, updL_if, e]⟩
      · simpa [hamC, hamF, cS1, cS2, cA1, cA2, cA3, cL1, cL2, cL3, gl_setG, gl_setM, gl_setK, mb_setM, mb_setG, mb_setK, kd_setM, kd_setG, kd_setK, upd_if, updL_if, e] using d2
    · by_cases e : q = k
      · simp [hamC, hamF, cS1, cS2, cA1, cA2, cA3, cL1, cL2, cL3, gl_setG, gl_setM, gl_setK, mb_setM, mb_setG, mb_setK, kd_setM, kd_setG, kd_setK, upd_if, updL_if, e]
      · simpa [hamC, hamF, cS1, cS2, cA1, cA2, cA3, cL1, cL2, cL3, gl_setG, gl_setM, gl_setK, mb_setM, mb_setG, mb_setK, kd_setM, kd_setG, kd_setK, upd_if, updL_if, e] using d3
    · simpa [hamC, hamF, cS1, cS2, cA1, cA2, cA3, cL1, cL2, cL3, gl_setG, gl_setM, gl_setK, mb_setM, mb_setG, mb_setK, kd_setM, kd_setG, kd_setK, upd_if, updL_if] using d5
    · intro i hi
      have := d6 i hi
      simpa [hamC, hamF, cS1, cS2, cA1, cA2, cA3, cL1, cL2, cL3, gl_setG, gl_setM, gl_setK, mb_setM, mb_setG, mb_setK, kd_setM, kd_setG, kd_setK, upd_if, updL_if, hn i (by omega), show ¬ (3 + i = 0) by omega, show ¬ (3 + i = 1) by omega] using this
    · intro m hm hc
      rcases d7 m hm hc with z | ⟨i, z1, z2, z3⟩
      · exact Or.inl z
      · exact Or.inr ⟨i, z1, z2, by simpa [hamC, hamF, cS1, cS2, cA1, cA2, cA3, cL1, cL2, cL3, gl_setG, gl_setM, gl_setK, mb_setM, mb_setG, mb_setK, kd_setM, kd_setG, kd_setK, upd_if, updL_if, hn i (by omega), show ¬ (3 + i = 0) by omega, show ¬ (3 + i = 1) by omega] using z3⟩
  · simpa [hamC, hamF, cS1, cS2, cA1, cA2, cA3, cL1, cL2, cL3, gl_setG, gl_setM, gl_setK, mb_setM, mb_setG, mb_setK, kd_setM, kd_setG, kd_setK, upd_if, updL_if] using a1
  · simpa [hamC, hamF, cS1, cS2, cA1, cA2, cA3, cL1, cL2, cL3, gl_setG, gl_setM, gl_setK, mb_setM, mb_setG, mb_setK, kd_setM, kd_setG, kd_setK, upd_if, updL_if] using a2
  · simpa [hamC, hamF, cS1, cS2, cA1, cA2, cA3, cL1, cL2, cL3, gl_setG, gl_setM, gl_setK, mb_setM, mb_setG, mb_setK, kd_setM, kd_setG, kd_setK, upd_if, updL_if] using a3
  · simpa [hamC, hamF, cS1, cS2, cA1, cA2, cA3, cL1, cL2, cL3, gl_setG, gl_setM, gl_setK, mb_setM, mb_setG, mb_setK, kd_setM, kd_setG, kd_setK, upd_if, updL_if] using a4
  · simpa [hamC, hamF, cS1, cS2, cA1, cA2, cA3, cL1, cL2, cL3, gl_setG, gl_setM, gl_setK, mb_setM, mb_setG, mb_setK, kd_setM, kd_setG, kd_setK, upd_if, updL_if] using a5
  · simpa [hamC, hamF, cS1, cS2, cA1, cA2, cA3, cL1, cL2, cL3, gl_setG, gl_setM, gl_setK, mb_setM, mb_setG, mb_setK, kd_setM, kd_setG, kd_setK, upd_if, updL_if] using a6
  · intro m hm
    simpa [hamC, hamF, cS1, cS2, cA1, cA2, cA3, cL1, cL2, cL3, gl_setG, gl_setM, gl_setK, mb_setM, mb_setG, mb_setK, kd_setM, kd_setG, kd_setK, upd_if, updL_if, hk] using a7 m hm
  · simpa [hamC, hamF, cS1, cS2, cA1, cA2, cA3, cL1, cL2, cL3, gl_setG, gl_setM, gl_setK, mb_setM, mb_setG, mb_setK, kd_setM, kd_setG, kd_setK, upd_if, updL_if] using a8
  · refine ⟨fun q => ?_, fun q => ?_⟩
    · simpa [hamC, hamF, cS1, cS2, cA1, cA2, cA3, cL1, cL2, cL3, gl_setG, gl_setM, gl_setK, mb_setM, mb_setG, mb_setK, kd_setM, kd_setG, kd_setK, upd_if, updL_if] using hE.1 hu
    · simp [hamC, hamF, cS1, cS2, cA1, cA2, cA3, cL1, cL2, cL3, gl_setG, gl_setM, gl_setK, mb_setM, mb_setG, mb_setK, kd_setM, kd_setG, kd_setK, upd_if, updL_if, hu] at q

def joinC (c : CS) (j : Nat) : CS := cS (cA c 3 (upd (c.2.1 3) j (c.1 0))) 4 ((cA c 3 (upd (c.2.1 3) j (c.1 0))).1 4 + 1)
def clr (g : Nat → Int32) (j : Nat) : Nat → Int32 := fun i => if 70 + 13 * j ≤ i ∧ i < 83 + 13 * j then 0 else g i
def joinF (g : Nat → Int32) (j : Nat) : Nat → Int32 :=
  let g1 := setM (clr g j) j 3 (-9)
  let g2 := setM g1 j 6 (g1 0)
  let g3 := setM g2 j 9 (-9)
  let g4 := setM g3 j 11 (-9)
  setG g4 1 (g4 1 + 1)
theorem gl_clr {g : Nat → Int32} {j i : Nat} (h : i < 70) : clr g j i = g i := by
  unfold clr
  rw [if_neg (by omega)]
theorem mb_clr {g : Nat → Int32} {j m v : Nat} (hv : v < 13) : mb (clr g j) m v = if m = j then 0 else mb g m v := by
  unfold mb clr
  by_cases e : m = j
  · rw [if_pos e, if_pos (by omega)]
  · rw [if_neg e, if_neg (by omega)]
theorem kd_clr {g : Nat → Int32} {j k v : Nat} (hk : k < 4) (hv : v < 15) : kd (clr g j) k v = kd g k v := by
  unfold kd
  exact gl_clr (by omega)
theorem mb_joinF {g : Nat → Int32} {j m v : Nat} (hv : v < 13) : mb (joinF g j) m v = if m = j then (if v = 3 ∨ v = 9 ∨ v = 11 then -9 else if v = 6 then g 0 else 0) else mb g m v := by
  unfold joinF
  simp only [mb_setG (show 1 < 10 by omega), mb_setM (show 11 < 13 by omega) hv, mb_setM (show 9 < 13 by omega) hv, mb_setM (show 6 < 13 by omega) hv, mb_setM (show 3 < 13 by omega) hv, mb_clr hv, gl_setM (show 0 < 10 by omega), gl_clr (show 0 < 70 by omega)]
  by_cases e : m = j
  · subst e
    by_cases e1 : v = 11
    · simp [e1]
    · by_cases e2 : v = 9
      · simp [e2]
      · by_cases e3 : v = 6
        · simp [e3]
        · by_cases e4 : v = 3
          · simp [e4]
          · simp [e1, e2, e3, e4]
  · simp [e]
theorem kd_joinF {g : Nat → Int32} {j k v : Nat} (hk : k < 4) (hv : v < 15) : kd (joinF g j) k v = kd g k v := by
  unfold joinF
  simp only [kd_setG (show 1 < 10 by omega), kd_setM hk hv, kd_clr hk hv]
theorem gl_joinF {g : Nat → Int32} {j i : Nat} (hi : i < 10) : joinF g j i = if i = 1 then g 1 + 1 else g i := by
  unfold joinF
  simp only [gl_setG, gl_setM hi, gl_setM (show 1 < 10 by omega), gl_clr (show i < 70 by omega), gl_clr (show 1 < 70 by omega)]
theorem out_joinF {g : Nat → Int32} {j i : Nat} (hj : j < 12) (h : 226 ≤ i) : joinF g j i = g i := by
  unfold joinF
  simp only [out_setG (show 1 < 10 by omega) h, out_setM hj (show 11 < 13 by omega) h, out_setM hj (show 9 < 13 by omega) h, out_setM hj (show 6 < 13 by omega) h, out_setM hj (show 3 < 13 by omega) h]
  unfold clr
  rw [if_neg (by omega)]
theorem join_rel {c : CS} {g : Nat → Int32} {w N : Nat} (h : CRw c g w N) (hN : N < 12) (hu : c.1 1 = 0) : CRw (joinC c N) (joinF g N) w (N + 1) := by
  obtain ⟨⟨hG, hM, hI, hO, hQ⟩, ⟨⟨a1, a2, a3, a4, a5, a6, a7⟩, a8⟩, hE⟩ := h
  obtain ⟨h1, h2, h3, h4, h5, h6, h7, h8⟩ := hG
  refine ⟨⟨?_, ?_, ?_, ?_, ?_⟩, ⟨⟨?_, ?_, ?_, ?_, ?_, ?_, ?_⟩, ?_⟩, ?_⟩
  · refine ⟨h1, by omega, ?_, ?_, ?_, ?_, ?_, ?_⟩ <;> simp [joinC, gl_joinF, cS1, cA1, h3, h4, h5, h6, h7, h8, nI_1] <;> exact h7
  · intro m hm
    by_cases e : m = N
    · subst e
      obtain ⟨o1, o2, o3, o4, o5, o6, o7, o8, o9, o10⟩ := hO m (Nat.le_refl m) hN
      refine ⟨?_, ?_, ?_, ?_, ?_, ?_, ?_, ?_, ?_, fun i hi => ?_⟩
      · simp [mb_joinF, joinC, cS2, cA2, o1]
      · simp [mb_joinF, joinC, cS2, cA2, o2]
      · simp [mb_joinF, joinC, cS2, cA2, o3]
      · simp [mb_joinF, joinC, cS2, cA2, o7]
      · simp [mb_joinF, joinC, cS2, cA2, o7, o8]
      · simp [mb_joinF, joinC, cS2, cA2, o5]
      · simp [mb_joinF, joinC, cS2, cA2, upd_if, h3, h4]
      · simp [mb_joinF, joinC, cS2, cA2, o6]
      · simp [mb_joinF, joinC, cS2, cA2, o9]
      · rw [mb_joinF (by omega), if_pos rfl, if_neg (by omega), if_neg (by omega)]
        show gbit (c.2.2 m) i = _
        rw [o10]
        simp [gbit, ibit]
    · obtain ⟨b1, b2, b3, b4, b5, b6, b7, b8, b9, b10⟩ := hM m (by omega)
      refine ⟨?_, ?_, ?_, ?_, ?_, ?_, ?_, ?_, ?_, fun i hi => ?_⟩
      · simp [mb_joinF, e, joinC, cS2, cA2, b1]
      · simp [mb_joinF, e, joinC, cS2, cA2, b2]
      · simp [mb_joinF, e, joinC, cS2, cA2, b3]
      · simp [mb_joinF, e, joinC, cS2, cA2, b4]
      · simp [mb_joinF, e, joinC, cS2, cA2, b5]
      · simp [mb_joinF, e, joinC, cS2, cA2, b6]
      · simp [mb_joinF, e, joinC, cS2, cA2, upd_if, b7]
      · simp [mb_joinF, e, joinC, cS2, cA2, b8]
      · simp [mb_joinF, e, joinC, cS2, cA2, b9]
      · rw [mb_joinF (by omega), if_neg e]
        exact b10 i hi
  · intro m hm
    obtain ⟨⟨s, b1, b1'⟩, b2, b3, b4, b5, b6⟩ := hI m hm
    exact ⟨⟨s, b1, b1'⟩, b2, b3, b4, b5, b6⟩
  · intro m hm1 hm2
    exact hO m (by omega) hm2
  · intro q hq
    have hn : ∀ i, i < 12 → 3 + i < 15 := by omega
    obtain ⟨d1, d2, d3, n, d4, d5, d6, d7⟩ := hQ q hq
    refine ⟨?_, d2, ?_, n, d4, ?_, ?_, ?_⟩
    · rw [kd_joinF hq (by omega)]; exact d1
    · rw [kd_joinF hq (by omega)]; exact d3
    · rw [kd_joinF hq (by omega)]; exact d5
    · intro i hi
      rw [kd_joinF hq (hn i (by omega))]
      obtain ⟨m, z1, z2⟩ := d6 i hi
      exact ⟨m, by omega, z2⟩
    · intro m hm hc
      rcases d7 m hm hc with z | ⟨i, z1, z2, z3⟩
      · exact Or.inl z
      · exact Or.inr ⟨i, z1, z2, by rw [kd_joinF hq (hn i (by omega))]; exact z3⟩
  · rw [gl_joinF (by omega)]; exact a1
  · rw [gl_joinF (by omega)]; exact a2
  · rw [gl_joinF (by omega)]; exact a3
  · rw [gl_joinF (by omega)]; exact a4
  · rw [gl_joinF (by omega)]; exact a5
  · rw [gl_joinF (by omega)]; exact a6
  · intro m hm
    rw [mb_joinF (by omega)]
    by_cases e : m = N
    · subst e
      have o4 := (hO m (Nat.le_refl m) hN).2.2.2.1
      simp
      exact o4
    · rw [if_neg e]
      exact a7 m (by omega)
  · rw [gl_joinF (by omega)]; exact a8
  · refine ⟨fun q => hE.1 hu, fun q => ?_⟩
    have q : c.1 1 = 1 := q
    rw [hu] at q
    exact absurd q (by decide)