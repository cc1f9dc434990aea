/-! More simple changes of the class, and that they keep the relation. -/
def misC (c : CS) (j : Nat) : CS :=
  let c1 := cA c 1 (upd (c.2.1 1) j 1)
  cA c1 2 (upd (c1.2.1 2) j (c1.1 0))
def findC (c : CS) (j : Nat) : CS := cA c 1 (upd (c.2.1 1) j 0)
def payC (c : CS) (j : Nat) (v : Int32) : CS :=
  let c1 := cS c 5 (c.1 5 - v)
  let c2 := cS c1 8 (c1.1 8 + v)
  cA c2 4 (upd (c2.2.1 4) j (c2.2.1 4 j + v))
def wdC (c : CS) (j : Nat) (k : Int32) : CS :=
  let c1 := cA c 0 (upd (c.2.1 0) j (c.2.1 0 j - k))
  let c2 := cA c1 5 (upd (c1.2.1 5) j 1)
  let c3 := cS c2 6 (c2.1 6 + charge k)
  payC c3 j (10 * k - charge k)
def hamC (c : CS) (k : Nat) (p s : Int32) : CS := cA (cA c 7 (upd (c.2.1 7) k p)) 8 (upd ((cA c 7 (upd (c.2.1 7) k p)).2.1 8) k s)
theorem mis_rel {c : CS} {g : Nat → Int32} {w N : Nat} {j : Nat} (h : CRw c g w N) (hj : j < N) (hs : c.2.1 1 j = 0) (hu : c.1 1 = 0) : CRw (misC c j) (misF g j) w N := by
  obtain ⟨⟨hG, hM, hI, hO, hQ⟩, ⟨⟨a1, a2, a3, a4, a5, a6, a7⟩, a8⟩, hE⟩ := h
  obtain ⟨h1, h2, h3, h4, h5, h6, h7, h8⟩ := hG
  refine ⟨⟨?_, ?_, ?_, ?_, ?_⟩, ⟨⟨?_, ?_, ?_, ?_, ?_, ?_, ?_⟩, ?_⟩, ?_⟩
  · refine ⟨h1, h2, ?_, ?_, ?_, ?_, ?_, ?_⟩ <;> simp [misC, misF, cS1, cS2, cA1, cA2, cA3, cL1, cL2, cL3, gl_setG, gl_setM, gl_setK, mb_setM, mb_setG, mb_setK, kd_setM, kd_setG, kd_setK, upd_if, updL_if, *]
  · intro m hm
    obtain ⟨b1, b2, b3, b4, b5, b6, b7, b8, b9, b10⟩ := hM m hm
    by_cases e : m = j
    · subst e
      refine ⟨?_, ?_, ?_, ?_, ?_, ?_, ?_, ?_, ?_, fun i hi => ?_⟩
      all_goals first | (have hi7 : 7 + i / 31 < 13 := by omega); simp [misC, misF, cS1, cS2, cA1, cA2, cA3, cL1, cL2, cL3, gl_setG, gl_setM, gl_setK, mb_setM, mb_setG, mb_setK, kd_setM, kd_setG, kd_setK, upd_if, updL_if, *, show ¬ (7 + i / 31 = 0) by omega, show ¬ (7 + i / 31 = 1) by omega, show ¬ (7 + i / 31 = 2) by omega, show ¬ (7 + i / 31 = 5) by omega, show ¬ (7 + i / 31 = 10) by omega] | simp [misC, misF, cS1, cS2, cA1, cA2, cA3, cL1, cL2, cL3, gl_setG, gl_setM, gl_setK, mb_setM, mb_setG, mb_setK, kd_setM, kd_setG, kd_setK, upd_if, updL_if, *]
    · refine ⟨?_, ?_, ?_, ?_, ?_, ?_, ?_, ?_, ?_, fun i hi => ?_⟩
      all_goals first | (have hi7 : 7 + i / 31 < 13 := by omega); simp [misC, misF, cS1, cS2, cA1, cA2, cA3, cL1, cL2, cL3, gl_setG, gl_setM, gl_setK, mb_setM, mb_setG, mb_setK, kd_setM, kd_setG, kd_setK, upd_if, updL_if, *] | simp [misC, misF, cS1, cS2, cA1, cA2, cA3, cL1, cL2, cL3, gl_setG, gl_setM, gl_setK, mb_setM, mb_setG, mb_setK, kd_setM, kd_setG, kd_setK, upd_if, updL_if, *]
  · intro m hm
    obtain ⟨⟨s, b1, b1'⟩, b2, b3, b4, b5, b6⟩ := hI m hm
    by_cases e : m = j
    · subst e
      refine ⟨⟨s, ?_, ?_⟩, ?_, ?_, ?_, ?_, ?_⟩
      · simp [misC, misF, cS1, cS2, cA1, cA2, cA3, cL1, cL2, cL3, gl_setG, gl_setM, gl_setK, mb_setM, mb_setG, mb_setK, kd_setM, kd_setG, kd_setK, upd_if, updL_if, b1]
      · simpa [misC, misF, cS1, cS2, cA1, cA2, cA3, cL1, cL2, cL3, gl_setG, gl_setM, gl_setK, mb_setM, mb_setG, mb_setK, kd_setM, kd_setG, kd_setK, upd_if, updL_if] using b1'
      · simp [misC, misF, cS1, cS2, cA1, cA2, cA3, cL1, cL2, cL3, gl_setG, gl_setM, gl_setK, mb_setM, mb_setG, mb_setK, kd_setM, kd_setG, kd_setK, upd_if, updL_if]
      · intro _
        exact ⟨w, Nat.le_refl w, by simp [misC, misF, cS1, cS2, cA1, cA2, cA3, cL1, cL2, cL3, gl_setG, gl_setM, gl_setK, mb_setM, mb_setG, mb_setK, kd_setM, kd_setG, kd_setK, upd_if, updL_if, h3]⟩
      · simpa [misC, misF, cS1, cS2, cA1, cA2, cA3, cL1, cL2, cL3, gl_setG, gl_setM, gl_setK, mb_setM, mb_setG, mb_setK, kd_setM, kd_setG, kd_setK, upd_if, updL_if] using b4
      · simpa [misC, misF, cS1, cS2, cA1, cA2, cA3, cL1, cL2, cL3, gl_setG, gl_setM, gl_setK, mb_setM, mb_setG, mb_setK, kd_setM, kd_setG, kd_setK, upd_if, updL_if] using b5
      · simpa [misC, misF, cS1, cS2, cA1, cA2, cA3, cL1, cL2, cL3, gl_setG, gl_setM, gl_setK, mb_setM, mb_setG, mb_setK, kd_setM, kd_setG, kd_setK, upd_if, updL_if] using b6
    · refine ⟨⟨s, ?_, ?_⟩, ?_, ?_, ?_, ?_, ?_⟩
      · simp [misC, misF, cS1, cS2, cA1, cA2, cA3, cL1, cL2, cL3, gl_setG, gl_setM, gl_setK, mb_setM, mb_setG, mb_setK, kd_setM, kd_setG, kd_setK, upd_if, updL_if, b1]
      · simpa [misC, misF, cS1, cS2, cA1, cA2, cA3, cL1, cL2, cL3, gl_setG, gl_setM, gl_setK, mb_setM, mb_setG, mb_setK, kd_setM, kd_setG, kd_setK, upd_if, updL_if, e] using b1'
      · simpa [misC, misF, cS1, cS2, cA1, cA2, cA3, cL1, cL2, cL3, gl_setG, gl_setM, gl_setK, mb_setM, mb_setG, mb_setK, kd_setM, kd_setG, kd_setK, upd_if, updL_if, e] using b2
      · simpa [misC, misF, cS1, cS2, cA1, cA2, cA3, cL1, cL2, cL3, gl_setG, gl_setM, gl_setK, mb_setM, mb_setG, mb_setK, kd_setM, kd_setG, kd_setK, upd_if, updL_if, e] using b3
      · simpa [misC, misF, cS1, cS2, cA1, cA2, cA3, cL1, cL2, cL3, gl_setG, gl_setM, gl_setK, mb_setM, mb_setG, mb_setK, kd_setM, kd_setG, kd_setK, upd_if, updL_if, e] using b4
      · simpa [misC, misF, cS1, cS2, cA1, cA2, cA3, cL1, cL2, cL3, gl_setG, gl_setM, gl_setK, mb_setM, mb_setG, mb_setK, kd_setM, kd_setG, kd_setK, upd_if, updL_if, e] using b5
      · simpa [misC, misF, cS1, cS2, cA1, cA2, cA3, cL1, cL2, cL3, gl_setG, gl_setM, gl_setK, mb_setM, mb_setG, mb_setK, kd_setM, kd_setG, kd_setK, upd_if, updL_if, e] using b6
  · intro m hm1 hm2
    have e : ¬ m = j := by omega
    have := hO m hm1 hm2
    unfold CO at this ⊢
    simpa [misC, misF, cS1, cS2, cA1, cA2, cA3, cL1, cL2, cL3, gl_setG, gl_setM, gl_setK, mb_setM, mb_setG, mb_setK, kd_setM, kd_setG, kd_setK, upd_if, updL_if, e] using this
  · intro q hq
    have := hQ q hq
    unfold CQ at this ⊢
    have hn : ∀ i, i < 12 → 3 + i < 15 := by omega
    obtain ⟨d1, d2, d3, n, d4, d5, d6, d7⟩ := this
    refine ⟨?_, ?_, ?_, n, d4, ?_, ?_, ?_⟩
    · simpa [misC, misF, cS1, cS2, cA1, cA2, cA3, cL1, cL2, cL3, gl_setG, gl_setM, gl_setK, mb_setM, mb_setG, mb_setK, kd_setM, kd_setG, kd_setK, upd_if, updL_if, hq] using d1
    · simpa [misC, misF, cS1, cS2, cA1, cA2, cA3, cL1, cL2, cL3, gl_setG, gl_setM, gl_setK, mb_setM, mb_setG, mb_setK, kd_setM, kd_setG, kd_setK, upd_if, updL_if] using d2
    · simpa [misC, misF, cS1, cS2, cA1, cA2, cA3, cL1, cL2, cL3, gl_setG, gl_setM, gl_setK, mb_setM, mb_setG, mb_setK, kd_setM, kd_setG, kd_setK, upd_if, updL_if, hq] using d3
    · simpa [misC, misF, cS1, cS2, cA1, cA2, cA3, cL1, cL2, cL3, gl_setG, gl_setM, gl_setK, mb_setM, mb_setG, mb_setK, kd_setM, kd_setG, kd_setK, upd_if, updL_if, hq] using d5
    · intro i hi
      have := d6 i hi
      simpa [misC, misF, cS1, cS2, cA1, cA2, cA3, cL1, cL2, cL3, gl_setG, gl_setM, gl_setK, mb_setM, mb_setG, mb_setK, kd_setM, kd_setG, kd_setK, upd_if, updL_if, hq, hn i (by omega)] using this
    · intro m hm hc
      have := d7 m hm (by simpa [misC, misF, cS1, cS2, cA1, cA2, cA3, cL1, cL2, cL3, gl_setG, gl_setM, gl_setK, mb_setM, mb_setG, mb_setK, kd_setM, kd_setG, kd_setK, upd_if, updL_if] using hc)
      rcases this with z | ⟨i, z1, z2, z3⟩
      · exact Or.inl (by simpa [misC, misF, cS1, cS2, cA1, cA2, cA3, cL1, cL2, cL3, gl_setG, gl_setM, gl_setK, mb_setM, mb_setG, mb_setK, kd_setM, kd_setG, kd_setK, upd_if, updL_if] using z)
      · exact Or.inr ⟨i, z1, by simpa [misC, misF, cS1, cS2, cA1, cA2, cA3, cL1, cL2, cL3, gl_setG, gl_setM, gl_setK, mb_setM, mb_setG, mb_setK, kd_setM, kd_setG, kd_setK, upd_if, updL_if] using z2, by simpa [misC, misF, cS1, cS2, cA1, cA2, cA3, cL1, cL2, cL3, gl_setG, gl_setM, gl_setK, mb_setM, mb_setG, mb_setK, kd_setM, kd_setG, kd_setK, upd_if, updL_if, hq, hn i (by omega)] using z3⟩
  · simpa [misC, misF, cS1, cS2, cA1, cA2, cA3, cL1, cL2, cL3, gl_setG, gl_setM, gl_setK, mb_setM, mb_setG, mb_setK, kd_setM, kd_setG, kd_setK, upd_if, updL_if] using a1
  · simpa [misC, misF, cS1, cS2, cA1, cA2, cA3, cL1, cL2, cL3, gl_setG, gl_setM, gl_setK, mb_setM, mb_setG, mb_setK, kd_setM, kd_setG, kd_setK, upd_if, updL_if] using a2
  · simpa [misC, misF, cS1, cS2, cA1, cA2, cA3, cL1, cL2, cL3, gl_setG, gl_setM, gl_setK, mb_setM, mb_setG, mb_setK, kd_setM, kd_setG, kd_setK, upd_if, updL_if] using a3
  · simpa [misC, misF, cS1, cS2, cA1, cA2, cA3, cL1, cL2, cL3, gl_setG, gl_setM, gl_setK, mb_setM, mb_setG, mb_setK, kd_setM, kd_setG, kd_setK, upd_if, updL_if] using a4
  · simpa [misC, misF, cS1, cS2, cA1, cA2, cA3, cL1, cL2, cL3, gl_setG, gl_setM, gl_setK, mb_setM, mb_setG, mb_setK, kd_setM, kd_setG, kd_setK, upd_if, updL_if] using a5
  · simpa [misC, misF, cS1, cS2, cA1, cA2, cA3, cL1, cL2, cL3, gl_setG, gl_setM, gl_setK, mb_setM, mb_setG, mb_setK, kd_setM, kd_setG, kd_setK, upd_if, updL_if] using a6
  · intro m hm
    simpa [misC, misF, cS1, cS2, cA1, cA2, cA3, cL1, cL2, cL3, gl_setG, gl_setM, gl_setK, mb_setM, mb_setG, mb_setK, kd_setM, kd_setG, kd_setK, upd_if, updL_if] using a7 m hm
  · simpa [misC, misF, cS1, cS2, cA1, cA2, cA3, cL1, cL2, cL3, gl_setG, gl_setM, gl_setK, mb_setM, mb_setG, mb_setK, kd_setM, kd_setG, kd_setK, upd_if, updL_if] using a8
  · refine ⟨fun q => ?_, fun q => ?_⟩
    · simpa [misC, misF, cS1, cS2, cA1, cA2, cA3, cL1, cL2, cL3, gl_setG, gl_setM, gl_setK, mb_setM, mb_setG, mb_setK, kd_setM, kd_setG, kd_setK, upd_if, updL_if] using hE.1 hu
    · simp [misC, misF, cS1, cS2, cA1, cA2, cA3, cL1, cL2, cL3, gl_setG, gl_setM, gl_setK, mb_setM, mb_setG, mb_setK, kd_setM, kd_setG, kd_setK, upd_if, updL_if, hu] at q

theorem find_rel {c : CS} {g : Nat → Int32} {w N : Nat} {j : Nat} (h : CRw c g w N) (hj : j < N) (hu : c.1 1 = 0) : CRw (findC c j) (findF g j) w N := by
  obtain ⟨⟨hG, hM, hI, hO, hQ⟩, ⟨⟨a1, a2, a3, a4, a5, a6, a7⟩, a8⟩, hE⟩ := h
  obtain ⟨h1, h2, h3, h4, h5, h6, h7, h8⟩ := hG
  refine ⟨⟨?_, ?_, ?_, ?_, ?_⟩, ⟨⟨?_, ?_, ?_, ?_, ?_, ?_, ?_⟩, ?_⟩, ?_⟩
  · refine ⟨h1, h2, ?_, ?_, ?_, ?_, ?_, ?_⟩ <;> simp [findC, findF, cS1, cS2, cA1, cA2, cA3, cL1, cL2, cL3, gl_setG, gl_setM, gl_setK, mb_setM, mb_setG, mb_setK, kd_setM, kd_setG, kd_setK, upd_if, updL_if, *]
  · intro m hm
    obtain ⟨b1, b2, b3, b4, b5, b6, b7, b8, b9, b10⟩ := hM m hm
    by_cases e : m = j
    · subst e
      refine ⟨?_, ?_, ?_, ?_, ?_, ?_, ?_, ?_, ?_, fun i hi => ?_⟩
      all_goals first | (have hi7 : 7 + i / 31 < 13 := by omega); simp [findC, findF, cS1, cS2, cA1, cA2, cA3, cL1, cL2, cL3, gl_setG, gl_setM, gl_setK, mb_setM, mb_setG, mb_setK, kd_setM, kd_setG, kd_setK, upd_if, updL_if, *, show ¬ (7 + i / 31 = 0) by omega, show ¬ (7 + i / 31 = 1) by omega, show ¬ (7 + i / 31 = 2) by omega, show ¬ (7 + i / 31 = 5) by omega, show ¬ (7 + i / 31 = 10) by omega] | simp [findC, findF, cS1, cS2, cA1, cA2, cA3, cL1, cL2, cL3, gl_setG, gl_setM, gl_setK, mb_setM, mb_setG, mb_setK, kd_setM, kd_setG, kd_setK, upd_if, updL_if, *]
    · refine ⟨?_, ?_, ?_, ?_, ?_, ?_, ?_, ?_, ?_, fun i hi => ?_⟩
      all_goals first | (have hi7 : 7 + i / 31 < 13 := by omega); simp [findC, findF, cS1, cS2, cA1, cA2, cA3, cL1, cL2, cL3, gl_setG, gl_setM, gl_setK, mb_setM, mb_setG, mb_setK, kd_setM, kd_setG, kd_setK, upd_if, updL_if, *] | simp [findC, findF, cS1, cS2, cA1, cA2, cA3, cL1, cL2, cL3, gl_setG, gl_setM, gl_setK, mb_setM, mb_setG, mb_setK, kd_setM, kd_setG, kd_setK, upd_if, updL_if, *]
  · intro m hm
    obtain ⟨⟨s, b1, b1'⟩, b2, b3, b4, b5, b6⟩ := hI m hm
    by_cases e : m = j
    · subst e
      refine ⟨⟨s, ?_, ?_⟩, ?_, ?_, ?_, ?_, ?_⟩
      · simp [findC, findF, cS1, cS2, cA1, cA2, cA3, cL1, cL2, cL3, gl_setG, gl_setM, gl_setK, mb_setM, mb_setG, mb_setK, kd_setM, kd_setG, kd_setK, upd_if, updL_if, b1]
      · exact b1'
      · simp [findC, findF, cS1, cS2, cA1, cA2, cA3, cL1, cL2, cL3, gl_setG, gl_setM, gl_setK, mb_setM, mb_setG, mb_setK, kd_setM, kd_setG, kd_setK, upd_if, updL_if]
      · intro q
        simp [findC, findF, cS1, cS2, cA1, cA2, cA3, cL1, cL2, cL3, gl_setG, gl_setM, gl_setK, mb_setM, mb_setG, mb_setK, kd_setM, kd_setG, kd_setK, upd_if, updL_if] at q
      · simpa [findC, findF, cS1, cS2, cA1, cA2, cA3, cL1, cL2, cL3, gl_setG, gl_setM, gl_setK, mb_setM, mb_setG, mb_setK, kd_setM, kd_setG, kd_setK, upd_if, updL_if] using b4
      · simpa [findC, findF, cS1, cS2, cA1, cA2, cA3, cL1, cL2, cL3, gl_setG, gl_setM, gl_setK, mb_setM, mb_setG, mb_setK, kd_setM, kd_setG, kd_setK, upd_if, updL_if] using b5
      · simpa [findC, findF, cS1, cS2, cA1, cA2, cA3, cL1, cL2, cL3, gl_setG, gl_setM, gl_setK, mb_setM, mb_setG, mb_setK, kd_setM, kd_setG, kd_setK, upd_if, updL_if] using b6
    · refine ⟨⟨s, ?_, ?_⟩, ?_, ?_, ?_, ?_, ?_⟩
      · simp [findC, findF, cS1, cS2, cA1, cA2, cA3, cL1, cL2, cL3, gl_setG, gl_setM, gl_setK, mb_setM, mb_setG, mb_setK, kd_setM, kd_setG, kd_setK, upd_if, updL_if, b1]
      · exact b1'
      · simpa [findC, findF, cS1, cS2, cA1, cA2, cA3, cL1, cL2, cL3, gl_setG, gl_setM, gl_setK, mb_setM, mb_setG, mb_setK, kd_setM, kd_setG, kd_setK, upd_if, updL_if, e] using b2
      · simpa [findC, findF, cS1, cS2, cA1, cA2, cA3, cL1, cL2, cL3, gl_setG, gl_setM, gl_setK, mb_setM, mb_setG, mb_setK, kd_setM, kd_setG, kd_setK, upd_if, updL_if, e] using b3
      · simpa [findC, findF, cS1, cS2, cA1, cA2, cA3, cL1, cL2, cL3, gl_setG, gl_setM, gl_setK, mb_setM, mb_setG, mb_setK, kd_setM, kd_setG, kd_setK, upd_if, updL_if, e] using b4
      · simpa [findC, findF, cS1, cS2, cA1, cA2, cA3, cL1, cL2, cL3, gl_setG, gl_setM, gl_setK, mb_setM, mb_setG, mb_setK, kd_setM, kd_setG, kd_setK, upd_if, updL_if, e] using b5
      · simpa [findC, findF, cS1, cS2, cA1, cA2, cA3, cL1, cL2, cL3, gl_setG, gl_setM, gl_setK, mb_setM, mb_setG, mb_setK, kd_setM, kd_setG, kd_setK, upd_if, updL_if, e] using b6
  · intro m hm1 hm2
    have e : ¬ m = j := by omega
    have := hO m hm1 hm2
    unfold CO at this ⊢
    simpa [findC, findF, cS1, cS2, cA1, cA2, cA3, cL1, cL2, cL3, gl_setG, gl_setM, gl_setK, mb_setM, mb_setG, mb_setK, kd_setM, kd_setG, kd_setK, upd_if, updL_if, e] using this
  · intro q hq
    have := hQ q hq
    unfold CQ at this ⊢
    have hn : ∀ i, i < 12 → 3 + i < 15 := by omega
    obtain ⟨d1, d2, d3, n, d4, d5, d6, d7⟩ := this
    refine ⟨?_, ?_, ?_, n, d4, ?_, ?_, ?_⟩
    · simpa [findC, findF, cS1, cS2, cA1, cA2, cA3, cL1, cL2, cL3, gl_setG, gl_setM, gl_setK, mb_setM, mb_setG, mb_setK, kd_setM, kd_setG, kd_setK, upd_if, updL_if, hq] using d1
    · simpa [findC, findF, cS1, cS2, cA1, cA2, cA3, cL1, cL2, cL3, gl_setG, gl_setM, gl_setK, mb_setM, mb_setG, mb_setK, kd_setM, kd_setG, kd_setK, upd_if, updL_if] using d2
    · simpa [findC, findF, cS1, cS2, cA1, cA2, cA3, cL1, cL2, cL3, gl_setG, gl_setM, gl_setK, mb_setM, mb_setG, mb_setK, kd_setM, kd_setG, kd_setK, upd_if, updL_if, hq] using d3
    · simpa [findC, findF, cS1, cS2, cA1, cA2, cA3, cL1, cL2, cL3, gl_setG, gl_setM, gl_setK, mb_setM, mb_setG, mb_setK, kd_setM, kd_setG, kd_setK, upd_if, updL_if, hq] using d5
    · intro i hi
      have := d6 i hi
      simpa [findC, findF, cS1, cS2, cA1, cA2, cA3, cL1, cL2, cL3, gl_setG, gl_setM, gl_setK, mb_setM, mb_setG, mb_setK, kd_setM, kd_setG, kd_setK, upd_if, updL_if, hq, hn i (by omega)] using this
    · intro m hm hc
      have := d7 m hm (by simpa [findC, findF, cS1, cS2, cA1, cA2, cA3, cL1, cL2, cL3, gl_setG, gl_setM, gl_setK, mb_setM, mb_setG, mb_setK, kd_setM, kd_setG, kd_setK, upd_if, updL_if] using hc)
      rcases this with z | ⟨i, z1, z2, z3⟩
      · exact Or.inl (by simpa [findC, findF, cS1, cS2, cA1, cA2, cA3, cL1, cL2, cL3, gl_setG, gl_setM, gl_setK, mb_setM, mb_setG, mb_setK, kd_setM, kd_setG, kd_setK, upd_if, updL_if] using z)
      · exact Or.inr ⟨i, z1, by simpa [findC, findF, cS1, cS2, cA1, cA2, cA3, cL1, cL2, cL3, gl_setG, gl_setM, gl_setK, mb_setM, mb_setG, mb_setK, kd_setM, kd_setG, kd_setK, upd_if, updL_if] using z2, by simpa [findC, findF, cS1, cS2, cA1, cA2, cA3, cL1, cL2, cL3, gl_setG, gl_setM, gl_setK, mb_setM, mb_setG, mb_setK, kd_setM, kd_setG, kd_setK, upd_if, updL_if, hq, hn i (by omega)] using z3⟩
  · simpa [findC, findF, cS1, cS2, cA1, cA2, cA3, cL1, cL2, cL3, gl_setG, gl_setM, gl_setK, mb_setM, mb_setG, mb_setK, kd_setM, kd_setG, kd_setK, upd_if, updL_if] using a1
  · simpa [findC, findF, cS1, cS2, cA1, cA2, cA3, cL1, cL2, cL3, gl_setG, gl_setM, gl_setK, mb_setM, mb_setG, mb_setK, kd_setM, kd_setG, kd_setK, upd_if, updL_if] using a2
  · simpa [findC, findF, cS1, cS2, cA1, cA2, cA3, cL1, cL2, cL3, gl_setG, gl_setM, gl_setK, mb_setM, mb_setG, mb_setK, kd_setM, kd_setG, kd_setK, upd_if, updL_if] using a3
  · simpa [findC, findF, cS1, cS2, cA1, cA2, cA3, cL1, cL2, cL3, gl_setG, gl_setM, gl_setK, mb_setM, mb_setG, mb_setK, kd_setM, kd_setG, kd_setK, upd_if, updL_if] using a4
  · simpa [findC, findF, cS1, cS2, cA1, cA2, cA3, cL1, cL2, cL3, gl_setG, gl_setM, gl_setK, mb_setM, mb_setG, mb_setK, kd_setM, kd_setG, kd_setK, upd_if, updL_if] using a5
  · simpa [findC, findF, cS1, cS2, cA1, cA2, cA3, cL1, cL2, cL3, gl_setG, gl_setM, gl_setK, mb_setM, mb_setG, mb_setK, kd_setM, kd_setG, kd_setK, upd_if, updL_if] using a6
  · intro m hm
    simpa [findC, findF, cS1, cS2, cA1, cA2, cA3, cL1, cL2, cL3, gl_setG, gl_setM, gl_setK, mb_setM, mb_setG, mb_setK, kd_setM, kd_setG, kd_setK, upd_if, updL_if] using a7 m hm
  · simpa [findC, findF, cS1, cS2, cA1, cA2, cA3, cL1, cL2, cL3, gl_setG, gl_setM, gl_setK, mb_setM, mb_setG, mb_setK, kd_setM, kd_setG, kd_setK, upd_if, updL_if] using a8
  · refine ⟨fun q => ?_, fun q => ?_⟩
    · simpa [findC, findF, cS1, cS2, cA1, cA2, cA3, cL1, cL2, cL3, gl_setG, gl_setM, gl_setK, mb_setM, mb_setG, mb_setK, kd_setM, kd_setG, kd_setK, upd_if, updL_if] using hE.1 hu
    · simp [findC, findF, cS1, cS2, cA1, cA2, cA3, cL1, cL2, cL3, gl_setG, gl_setM, gl_setK, mb_setM, mb_setG, mb_setK, kd_setM, kd_setG, kd_setK, upd_if, updL_if, hu] at q

theorem wd_rel {c : CS} {g : Nat → Int32} {w N : Nat} {j kk : Nat} (h : CRw c g w N) (hj : j < N) (hk : kk ≤ 999) (hs : ¬ c.2.1 0 j < nI kk) (hu : c.1 1 = 0) : CRw (wdC c j (nI kk)) (wdF g j (nI kk)) w N := by
  obtain ⟨⟨hG, hM, hI, hO, hQ⟩, ⟨⟨a1, a2, a3, a4, a5, a6, a7⟩, a8⟩, hE⟩ := h
  obtain ⟨h1, h2, h3, h4, h5, h6, h7, h8⟩ := hG
  have hj12 : j < 12 := by omega
  refine ⟨⟨?_, ?_, ?_, ?_, ?_⟩, ⟨⟨?_, ?_, ?_, ?_, ?_, ?_, ?_⟩, ?_⟩, ?_⟩
  · refine ⟨h1, h2, ?_, ?_, ?_, ?_, ?_, ?_⟩ <;> simp [wdC, wdF, payC, payF, cS1, cS2, cA1, cA2, cA3, cL1, cL2, cL3, gl_setG, gl_setM, gl_setK, mb_setM, mb_setG, mb_setK, kd_setM, kd_setG, kd_setK, upd_if, updL_if, *]
  · intro m hm
    obtain ⟨b1, b2, b3, b4, b5, b6, b7, b8, b9, b10⟩ := hM m hm
    by_cases e : m = j
    · subst e
      refine ⟨?_, ?_, ?_, ?_, ?_, ?_, ?_, ?_, ?_, fun i hi => ?_⟩
      all_goals first | (have hi7 : 7 + i / 31 < 13 := by omega); simp [wdC, wdF, payC, payF, cS1, cS2, cA1, cA2, cA3, cL1, cL2, cL3, gl_setG, gl_setM, gl_setK, mb_setM, mb_setG, mb_setK, kd_setM, kd_setG, kd_setK, upd_if, updL_if, *, show ¬ (7 + i / 31 = 0) by omega, show ¬ (7 + i / 31 = 1) by omega, show ¬ (7 + i / 31 = 2) by omega, show ¬ (7 + i / 31 = 5) by omega, show ¬ (7 + i / 31 = 10) by omega] | simp [wdC, wdF, payC, payF, cS1, cS2, cA1, cA2, cA3, cL1, cL2, cL3, gl_setG, gl_setM, gl_setK, mb_setM, mb_setG, mb_setK, kd_setM, kd_setG, kd_setK, upd_if, updL_if, *]
    · refine ⟨?_, ?_, ?_, ?_, ?_, ?_, ?_, ?_, ?_, fun i hi => ?_⟩
      all_goals first | (have hi7 : 7 + i / 31 < 13 := by omega); simp [wdC, wdF, payC, payF, cS1, cS2, cA1, cA2, cA3, cL1, cL2, cL3, gl_setG, gl_setM, gl_setK, mb_setM, mb_setG, mb_setK, kd_setM, kd_setG, kd_setK, upd_if, updL_if, *] | simp [wdC, wdF, payC, payF, cS1, cS2, cA1, cA2, cA3, cL1, cL2, cL3, gl_setG, gl_setM, gl_setK, mb_setM, mb_setG, mb_setK, kd_setM, kd_setG, kd_setK, upd_if, updL_if, *]
  · intro m hm
    obtain ⟨⟨s, b1, b1'⟩, b2, b3, b4, b5, b6⟩ := hI m hm
    by_cases e : m = j
    · subst e
      have hsk : kk ≤ s := by
        have hle : s ≤ 305 := by
          have : (if gbit (c.2.2 m) w = true then 5 else 0) ≤ 5 := by split <;> omega
          omega
        rw [b1] at hs
        exact Nat.le_of_not_lt (fun q => hs (nI_lt q (by omega)))
      refine ⟨⟨s - kk, ?_, ?_⟩, ?_, ?_, ?_, ?_, ?_⟩
      · simp [wdC, wdF, payC, payF, cS1, cS2, cA1, cA2, cA3, cL1, cL2, cL3, gl_setG, gl_setM, gl_setK, mb_setM, mb_setG, mb_setK, kd_setM, kd_setG, kd_setK, upd_if, updL_if, b1, pk_sub hsk]
      · have : s - kk ≤ 5 * w + (if gbit (c.2.2 m) w = true then 5 else 0) := by omega
        simpa [wdC, wdF, payC, payF, cS1, cS2, cA1, cA2, cA3, cL1, cL2, cL3, gl_setG, gl_setM, gl_setK, mb_setM, mb_setG, mb_setK, kd_setM, kd_setG, kd_setK, upd_if, updL_if] using this
      · simpa [wdC, wdF, payC, payF, cS1, cS2, cA1, cA2, cA3, cL1, cL2, cL3, gl_setG, gl_setM, gl_setK, mb_setM, mb_setG, mb_setK, kd_setM, kd_setG, kd_setK, upd_if, updL_if] using b2
      · simpa [wdC, wdF, payC, payF, cS1, cS2, cA1, cA2, cA3, cL1, cL2, cL3, gl_setG, gl_setM, gl_setK, mb_setM, mb_setG, mb_setK, kd_setM, kd_setG, kd_setK, upd_if, updL_if] using b3
      · simp [wdC, wdF, payC, payF, cS1, cS2, cA1, cA2, cA3, cL1, cL2, cL3, gl_setG, gl_setM, gl_setK, mb_setM, mb_setG, mb_setK, kd_setM, kd_setG, kd_setK, upd_if, updL_if]
      · simpa [wdC, wdF, payC, payF, cS1, cS2, cA1, cA2, cA3, cL1, cL2, cL3, gl_setG, gl_setM, gl_setK, mb_setM, mb_setG, mb_setK, kd_setM, kd_setG, kd_setK, upd_if, updL_if] using b5
      · simpa [wdC, wdF, payC, payF, cS1, cS2, cA1, cA2, cA3, cL1, cL2, cL3, gl_setG, gl_setM, gl_setK, mb_setM, mb_setG, mb_setK, kd_setM, kd_setG, kd_setK, upd_if, updL_if] using b6
    · refine ⟨⟨s, ?_, ?_⟩, ?_, ?_, ?_, ?_, ?_⟩
      · simp [wdC, wdF, payC, payF, cS1, cS2, cA1, cA2, cA3, cL1, cL2, cL3, gl_setG, gl_setM, gl_setK, mb_setM, mb_setG, mb_setK, kd_setM, kd_setG, kd_setK, upd_if, updL_if, b1, e]
      · simpa [wdC, wdF, payC, payF, cS1, cS2, cA1, cA2, cA3, cL1, cL2, cL3, gl_setG, gl_setM, gl_setK, mb_setM, mb_setG, mb_setK, kd_setM, kd_setG, kd_setK, upd_if, updL_if, e] using b1'
      · simpa [wdC, wdF, payC, payF, cS1, cS2, cA1, cA2, cA3, cL1, cL2, cL3, gl_setG, gl_setM, gl_setK, mb_setM, mb_setG, mb_setK, kd_setM, kd_setG, kd_setK, upd_if, updL_if, e] using b2
      · simpa [wdC, wdF, payC, payF, cS1, cS2, cA1, cA2, cA3, cL1, cL2, cL3, gl_setG, gl_setM, gl_setK, mb_setM, mb_setG, mb_setK, kd_setM, kd_setG, kd_setK, upd_if, updL_if, e] using b3
      · simpa [wdC, wdF, payC, payF, cS1, cS2, cA1, cA2, cA3, cL1, cL2, cL3, gl_setG, gl_setM, gl_setK, mb_setM, mb_setG, mb_setK, kd_setM, kd_setG, kd_setK, upd_if, updL_if, e] using b4
      · simpa [wdC, wdF, payC, payF, cS1, cS2, cA1, cA2, cA3, cL1, cL2, cL3, gl_setG, gl_setM, gl_setK, mb_setM, mb_setG, mb_setK, kd_setM, kd_setG, kd_setK, upd_if, updL_if, e] using b5
      · simpa [wdC, wdF, payC, payF, cS1, cS2, cA1, cA2, cA3, cL1, cL2, cL3, gl_setG, gl_setM, gl_setK, mb_setM, mb_setG, mb_setK, kd_setM, kd_setG, kd_setK, upd_if, updL_if, e] using b6
  · intro m hm1 hm2
    have e : ¬ m = j := by omega
    have := hO m hm1 hm2
    unfold CO at this ⊢
    simpa [wdC, wdF, payC, payF, cS1, cS2, cA1, cA2, cA3, cL1, cL2, cL3, gl_setG, gl_setM, gl_setK, mb_setM, mb_setG, mb_setK, kd_setM, kd_setG, kd_setK, upd_if, updL_if, e] using this
  · intro q hq
    have := hQ q hq
    unfold CQ at this ⊢
    have hn : ∀ i, i < 12 → 3 + i < 15 := by omega
    obtain ⟨d1, d2, d3, n, d4, d5, d6, d7⟩ := this
    refine ⟨?_, ?_, ?_, n, d4, ?_, ?_, ?_⟩
    · simpa [wdC, wdF, payC, payF, cS1, cS2, cA1, cA2, cA3, cL1, cL2, cL3, gl_setG, gl_setM, gl_setK, mb_setM, mb_setG, mb_setK, kd_setM, kd_setG, kd_setK, upd_if, updL_if, hq] using d1
    · simpa [wdC, wdF, payC, payF, cS1, cS2, cA1, cA2, cA3, cL1, cL2, cL3, gl_setG, gl_setM, gl_setK, mb_setM, mb_setG, mb_setK, kd_setM, kd_setG, kd_setK, upd_if, updL_if] using d2
    · simpa [wdC, wdF, payC, payF, cS1, cS2, cA1, cA2, cA3, cL1, cL2, cL3, gl_setG, gl_setM, gl_setK, mb_setM, mb_setG, mb_setK, kd_setM, kd_setG, kd_setK, upd_if, updL_if, hq] using d3
    · simpa [wdC, wdF, payC, payF, cS1, cS2, cA1, cA2, cA3, cL1, cL2, cL3, gl_setG, gl_setM, gl_setK, mb_setM, mb_setG, mb_setK, kd_setM, kd_setG, kd_setK, upd_if, updL_if, hq] using d5
    · intro i hi
      have := d6 i hi
      simpa [wdC, wdF, payC, payF, cS1, cS2, cA1, cA2, cA3, cL1, cL2, cL3, gl_setG, gl_setM, gl_setK, mb_setM, mb_setG, mb_setK, kd_setM, kd_setG, kd_setK, upd_if, updL_if, hq, hn i (by omega)] using this
    · intro m hm hc
      have := d7 m hm (by simpa [wdC, wdF, payC, payF, cS1, cS2, cA1, cA2, cA3, cL1, cL2, cL3, gl_setG, gl_setM, gl_setK, mb_setM, mb_setG, mb_setK, kd_setM, kd_setG, kd_setK, upd_if, updL_if] using hc)
      rcases this with z | ⟨i, z1, z2, z3⟩
      · exact Or.inl (by simpa [wdC, wdF, payC, payF, cS1, cS2, cA1, cA2, cA3, cL1, cL2, cL3, gl_setG, gl_setM, gl_setK, mb_setM, mb_setG, mb_setK, kd_setM, kd_setG, kd_setK, upd_if, updL_if] using z)
      · exact Or.inr ⟨i, z1, by simpa [wdC, wdF, payC, payF, cS1, cS2, cA1, cA2, cA3, cL1, cL2, cL3, gl_setG, gl_setM, gl_setK, mb_setM, mb_setG, mb_setK, kd_setM, kd_setG, kd_setK, upd_if, updL_if] using z2, by simpa [wdC, wdF, payC, payF, cS1, cS2, cA1, cA2, cA3, cL1, cL2, cL3, gl_setG, gl_setM, gl_setK, mb_setM, mb_setG, mb_setK, kd_setM, kd_setG, kd_setK, upd_if, updL_if, hq, hn i (by omega)] using z3⟩
  · simp [wdC, wdF, payC, payF, cS1, cS2, cA1, cA2, cA3, cL1, cL2, cL3, gl_setG, gl_setM, gl_setK, mb_setM, mb_setG, mb_setK, kd_setM, kd_setG, kd_setK, upd_if, updL_if, ← a1]
  · simpa [wdC, wdF, payC, payF, cS1, cS2, cA1, cA2, cA3, cL1, cL2, cL3, gl_setG, gl_setM, gl_setK, mb_setM, mb_setG, mb_setK, kd_setM, kd_setG, kd_setK, upd_if, updL_if] using a2
  · simp [wdC, wdF, payC, payF, cS1, cS2, cA1, cA2, cA3, cL1, cL2, cL3, gl_setG, gl_setM, gl_setK, mb_setM, mb_setG, mb_setK, kd_setM, kd_setG, kd_setK, upd_if, updL_if, a3]
  · simpa [wdC, wdF, payC, payF, cS1, cS2, cA1, cA2, cA3, cL1, cL2, cL3, gl_setG, gl_setM, gl_setK, mb_setM, mb_setG, mb_setK, kd_setM, kd_setG, kd_setK, upd_if, updL_if] using a4
  · simpa [wdC, wdF, payC, payF, cS1, cS2, cA1, cA2, cA3, cL1, cL2, cL3, gl_setG, gl_setM, gl_setK, mb_setM, mb_setG, mb_setK, kd_setM, kd_setG, kd_setK, upd_if, updL_if] using a5
  · simpa [wdC, wdF, payC, payF, cS1, cS2, cA1, cA2, cA3, cL1, cL2, cL3, gl_setG, gl_setM, gl_setK, mb_setM, mb_setG, mb_setK, kd_setM, kd_setG, kd_setK, upd_if, updL_if] using a6
  · intro m hm
    have := a7 m hm
    by_cases e : m = j
    · subst e
      simp at this
      simp [wdC, wdF, payC, payF, cS1, cS2, cA1, cA2, cA3, cL1, cL2, cL3, gl_setG, gl_setM, gl_setK, mb_setM, mb_setG, mb_setK, kd_setM, kd_setG, kd_setK, upd_if, updL_if, this]
    · simpa [wdC, wdF, payC, payF, cS1, cS2, cA1, cA2, cA3, cL1, cL2, cL3, gl_setG, gl_setM, gl_setK, mb_setM, mb_setG, mb_setK, kd_setM, kd_setG, kd_setK, upd_if, updL_if, e] using this
  · simp [wdC, wdF, payC, payF, cS1, cS2, cA1, cA2, cA3, cL1, cL2, cL3, gl_setG, gl_setM, gl_setK, mb_setM, mb_setG, mb_setK, kd_setM, kd_setG, kd_setK, upd_if, updL_if, ← a8]
  · refine ⟨fun q => ?_, fun q => ?_⟩
    · simpa [wdC, wdF, payC, payF, cS1, cS2, cA1, cA2, cA3, cL1, cL2, cL3, gl_setG, gl_setM, gl_setK, mb_setM, mb_setG, mb_setK, kd_setM, kd_setG, kd_setK, upd_if, updL_if] using hE.1 hu
    · simp [wdC, wdF, payC, payF, cS1, cS2, cA1, cA2, cA3, cL1, cL2, cL3, gl_setG, gl_setM, gl_setK, mb_setM, mb_setG, mb_setK, kd_setM, kd_setG, kd_setK, upd_if, updL_if, hu] at q
