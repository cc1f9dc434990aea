/-! The class's simple changes keep the relation. -/
def CRw (c : CS) (f : Nat → Int32) (w N : Nat) : Prop := CP c f w N ∧ CA c f N ∧ SE c N
theorem cS1 (c : CS) (k : Nat) (v : Int32) (i : Nat) : (cS c k v).1 i = if i = k then v else c.1 i := rfl
theorem cS2 (c : CS) (k : Nat) (v : Int32) : (cS c k v).2 = c.2 := rfl
theorem cA1 (c : CS) (k : Nat) (g : Nat → Int32) : (cA c k g).1 = c.1 := rfl
theorem cA2 (c : CS) (k : Nat) (g : Nat → Int32) (i : Nat) : (cA c k g).2.1 i = if i = k then g else c.2.1 i := rfl
theorem cA3 (c : CS) (k : Nat) (g : Nat → Int32) : (cA c k g).2.2 = c.2.2 := rfl
theorem cL1 (c : CS) (g : Nat → Int64) : (cL c g).1 = c.1 := rfl
theorem cL2 (c : CS) (g : Nat → Int64) : (cL c g).2.1 = c.2.1 := rfl
theorem cL3 (c : CS) (g : Nat → Int64) : (cL c g).2.2 = g := rfl
theorem updL_if (f : Nat → Int64) (k : Nat) (v : Int64) (j : Nat) : vp_updL f k v j = if j = k then v else f j := rfl
theorem k_exists {c : CS} {p : Int32} {Post : Int32 → CS → Prop} {N : Nat} (hc : c.1 4 = nI N) (hN : N ≤ 12) (ht : isM N p → Post 1 c) (hf : ¬ isM N p → Post 0 c) : wp_Crd_exists c p Post := by
  unfold wp_Crd_exists
  rw [hc]
  simp only [Int32.lt_iff_toInt_lt, Int32.le_iff_toInt_le, nI_toInt (show N < 2 ^ 31 by omega), show (0 : Int32).toInt = 0 from rfl]
  unfold isM at ht hf
  exact ⟨fun h => hf (by omega), fun h => ⟨fun h2 => hf (by omega), fun h2 => ht (by omega)⟩⟩
theorem k_inHand {c : CS} {j : Nat} {Post : Int32 → CS → Prop} (hj : j < 12) (ht : c.2.1 1 j = 0 → Post 1 c) (hf : ¬ c.2.1 1 j = 0 → Post 0 c) : wp_Crd_isInHand c (nI j) Post := by
  unfold wp_Crd_isInHand
  rw [nI_clamp (by omega)]
  exact ⟨vp_in_nI hj (by omega), ht, hf⟩
theorem k_goodIn {c : CS} {j i : Nat} {Post : Int32 → CS → Prop} (hj : j < 12) (hi : i < 64) (ht : gbit (c.2.2 j) i = true → Post 1 c) (hf : ¬ gbit (c.2.2 j) i = true → Post 0 c) : wp_Crd_isGoodIn c (nI j) (nI i) Post := by
  unfold wp_Crd_isGoodIn
  rw [nI_clamp (by omega), cls_bit hi]
  exact ⟨vp_in_nI hj (by omega), ht, hf⟩
def stickC (c : CS) (j : Nat) (k : Int32) (w : Nat) : CS :=
  let c1 := cL c (vp_updL c.2.2 j (c.2.2 j ||| (1 <<< ((nI w).toInt64 &&& 63))))
  let c2 := cA c1 6 (upd (c1.2.1 6) j (nI w))
  let c3 := cA c2 0 (upd (c2.2.1 0) j (c2.2.1 0 j + k))
  let c4 := cS c3 5 (c3.1 5 + k * 10)
  cS c4 7 (c4.1 7 + k * 10)
theorem wk_eq {c : CS} {f : Nat → Int32} {w N : Nat} (h : CG c f w N) : (f 0).toNatClampNeg = w := by
  obtain ⟨h1, h2, h3, h4, -⟩ := h
  rw [h4, nI_clamp (by omega)]
theorem CMm.good {c : CS} {f : Nat → Int32} {m i : Nat} (h : CMm c f m) (hi : i ≤ 60) : goodR f m i = gbit (c.2.2 m) i := (h.2.2.2.2.2.2.2.2.2 i hi).symm
theorem mb_stickF {g : Nat → Int32} {j m v w : Nat} {k : Int32} (hv : v < 13) (hw : 7 + w / 31 < 13) : mb (stickF g j k w) m v = if m = j then (if v = 9 then nI w else if v = 7 + w / 31 then mb g j (7 + w / 31) ||| 1 <<< (nI (w % 31) &&& 31) else if v = 0 then mb g j 0 + k else mb g m v) else mb g m v := by
  unfold stickF
  simp only [mb_setG (show 5 < 10 by omega), mb_setG (show 3 < 10 by omega), mb_setM (show 9 < 13 by omega) hv, mb_setM hw hv, mb_setM (show 0 < 13 by omega) hv, mb_setM (show 0 < 13 by omega) hw]
  by_cases e : m = j
  · subst e
    by_cases e1 : v = 9
    · simp [e1]
    · by_cases e2 : v = 7 + w / 31
      · simp [e2, show ¬ (7 + w / 31 = 9) by omega]
      · by_cases e3 : v = 0
        · simp [e3, show ¬ (0 = 7 + w / 31) by omega]
        · simp [e1, e2, e3]
  · simp [e]
theorem stick_rel {c : CS} {g : Nat → Int32} {w N j : Nat} {k : Int32} (h : CRw c g w N) (hj : j < N) (hk : 1 ≤ k.toInt ∧ k.toInt ≤ 5) (hb : gbit (c.2.2 j) w = false) (hs : c.2.1 1 j = 0) (hu : c.1 1 = 0) : CRw (stickC c j k w) (stickF g j k w) w N := by
  obtain ⟨⟨hG, hM, hI, hO, hQ⟩, ⟨⟨a1, a2, a3, a4, a5, a6, a7⟩, a8⟩, hE⟩ := h
  obtain ⟨h1, h2, h3, h4, h5, h6, h7, h8⟩ := hG
  have h10 : k * 10 = 10 * k := Int32.mul_comm _ _
  have hw7 : 7 + w / 31 < 13 := by omega
  have hj12 : j < 12 := by omega
  obtain ⟨kk, hkk, ek⟩ : ∃ x : Nat, x ≤ 5 ∧ k = nI x := nI_of2 (M := 5) (n := 5) rfl (by rw [Int32.lt_iff_toInt_lt]; show ¬ k.toInt < 0; omega) (by rw [Int32.le_iff_toInt_le]; show k.toInt ≤ 5; omega)
  refine ⟨⟨?_, ?_, ?_, ?_, ?_⟩, ⟨⟨?_, ?_, ?_, ?_, ?_, ?_, ?_⟩, ?_⟩, ?_⟩
  · refine ⟨h1, h2, ?_, ?_, ?_, ?_, ?_, ?_⟩ <;> simp [stickC, stickF, cS1, cS2, cA1, cA2, cA3, cL1, cL2, cL3, gl_setG, gl_setM, mb_setM, mb_setG, kd_setM, kd_setG, upd_if, updL_if, *]
  · intro m hm
    obtain ⟨b1, b2, b3, b4, b5, b6, b7, b8, b9, b10⟩ := hM m hm
    by_cases e : m = j
    · subst e
      have hb10 : ∀ i, i ≤ 60 → gbit ((stickC c m k w).2.2 m) i = ibit (mb (stickF g m k w) m (7 + i / 31)) (i % 31) := by
        intro i hi
        have hi7 : 7 + i / 31 < 13 := by omega
        rw [mb_stickF hi7 hw7, if_pos rfl, if_neg (by omega)]
        show gbit (vp_updL c.2.2 m (c.2.2 m ||| (1 <<< ((nI w).toInt64 &&& 63))) m) i = _
        rw [updL_if, if_pos rfl, cls_set (by omega) (by omega), b10 i hi]
        by_cases e2 : i / 31 = w / 31
        · rw [if_pos (by omega), ref_set (by omega) (by omega), ← e2]
          congr 1
          by_cases e3 : i = w
          · simp [e3]
          · simp [e3]
            omega
        · rw [if_neg (by omega), if_neg (by omega)]
          simp [show ¬ i = w by omega]
      refine ⟨?_, ?_, ?_, ?_, ?_, ?_, ?_, ?_, ?_, hb10⟩
      all_goals simp [stickC, stickF, cS1, cS2, cA1, cA2, cA3, cL1, cL2, cL3, gl_setG, gl_setM, mb_setM, mb_setG, kd_setM, kd_setG, upd_if, updL_if, *, show ¬ (0 = 7 + w / 31) by omega, show ¬ (1 = 7 + w / 31) by omega, show ¬ (2 = 7 + w / 31) by omega, show ¬ (3 = 7 + w / 31) by omega, show ¬ (4 = 7 + w / 31) by omega, show ¬ (5 = 7 + w / 31) by omega, show ¬ (6 = 7 + w / 31) by omega, show ¬ (11 = 7 + w / 31) by omega]
    · refine ⟨?_, ?_, ?_, ?_, ?_, ?_, ?_, ?_, ?_, ?_⟩
      all_goals try simp [stickC, stickF, cS1, cS2, cA1, cA2, cA3, cL1, cL2, cL3, gl_setG, gl_setM, mb_setM, mb_setG, kd_setM, kd_setG, upd_if, updL_if, *]
      intro i hi
      have hi7 : 7 + i / 31 < 13 := by omega
      simp [stickC, stickF, cS1, cS2, cA1, cA2, cA3, cL1, cL2, cL3, gl_setG, gl_setM, mb_setM, mb_setG, kd_setM, kd_setG, upd_if, updL_if, *]
  · intro m hm
    obtain ⟨⟨s, b1, b1'⟩, b2, b3, b4, b5, b6⟩ := hI m hm
    by_cases e : m = j
    · subst e
      rw [hb] at b1'
      refine ⟨⟨s + kk, ?_, ?_⟩, ?_, ?_, ?_, ?_, ?_⟩
      · simp [stickC, stickF, cS1, cS2, cA1, cA2, cA3, cL1, cL2, cL3, gl_setG, gl_setM, mb_setM, mb_setG, kd_setM, kd_setG, upd_if, updL_if, b1, ek, nI_add]
      · simp only [stickC, stickF, cS1, cS2, cA1, cA2, cA3, cL1, cL2, cL3, gl_setG, gl_setM, mb_setM, mb_setG, kd_setM, kd_setG, upd_if, updL_if, if_true]
        rw [cls_set (by omega) (by omega)]
        simp at b1' ⊢
        omega
      · simpa [stickC, stickF, cS1, cS2, cA1, cA2, cA3, cL1, cL2, cL3, gl_setG, gl_setM, mb_setM, mb_setG, kd_setM, kd_setG, upd_if, updL_if] using b2
      · simpa [stickC, stickF, cS1, cS2, cA1, cA2, cA3, cL1, cL2, cL3, gl_setG, gl_setM, mb_setM, mb_setG, kd_setM, kd_setG, upd_if, updL_if] using b3
      · simpa [stickC, stickF, cS1, cS2, cA1, cA2, cA3, cL1, cL2, cL3, gl_setG, gl_setM, mb_setM, mb_setG, kd_setM, kd_setG, upd_if, updL_if] using b4
      · simpa [stickC, stickF, cS1, cS2, cA1, cA2, cA3, cL1, cL2, cL3, gl_setG, gl_setM, mb_setM, mb_setG, kd_setM, kd_setG, upd_if, updL_if] using b5
      · intro i hi hi2
        simp only [stickC, stickF, cS1, cS2, cA1, cA2, cA3, cL1, cL2, cL3, gl_setG, gl_setM, mb_setM, mb_setG, kd_setM, kd_setG, upd_if, updL_if, if_true]
        rw [cls_set (by omega) hi2, b6 i hi hi2]
        simp
        omega
    · refine ⟨⟨s, ?_, ?_⟩, ?_, ?_, ?_, ?_, ?_⟩
      · simp [stickC, stickF, cS1, cS2, cA1, cA2, cA3, cL1, cL2, cL3, gl_setG, gl_setM, mb_setM, mb_setG, kd_setM, kd_setG, upd_if, updL_if, b1, e]
      · simpa [stickC, stickF, cS1, cS2, cA1, cA2, cA3, cL1, cL2, cL3, gl_setG, gl_setM, mb_setM, mb_setG, kd_setM, kd_setG, upd_if, updL_if, e] using b1'
      · simpa [stickC, stickF, cS1, cS2, cA1, cA2, cA3, cL1, cL2, cL3, gl_setG, gl_setM, mb_setM, mb_setG, kd_setM, kd_setG, upd_if, updL_if] using b2
      · simpa [stickC, stickF, cS1, cS2, cA1, cA2, cA3, cL1, cL2, cL3, gl_setG, gl_setM, mb_setM, mb_setG, kd_setM, kd_setG, upd_if, updL_if] using b3
      · simpa [stickC, stickF, cS1, cS2, cA1, cA2, cA3, cL1, cL2, cL3, gl_setG, gl_setM, mb_setM, mb_setG, kd_setM, kd_setG, upd_if, updL_if] using b4
      · simpa [stickC, stickF, cS1, cS2, cA1, cA2, cA3, cL1, cL2, cL3, gl_setG, gl_setM, mb_setM, mb_setG, kd_setM, kd_setG, upd_if, updL_if] using b5
      · simpa [stickC, stickF, cS1, cS2, cA1, cA2, cA3, cL1, cL2, cL3, gl_setG, gl_setM, mb_setM, mb_setG, kd_setM, kd_setG, upd_if, updL_if, e] using b6
  · intro m hm1 hm2
    have e : ¬ m = j := by omega
    have := hO m hm1 hm2
    unfold CO at this ⊢
    simpa [stickC, stickF, cS1, cS2, cA1, cA2, cA3, cL1, cL2, cL3, gl_setG, gl_setM, mb_setM, mb_setG, kd_setM, kd_setG, upd_if, updL_if, e] using this
  · intro q hq
    have := hQ q hq
    unfold CQ at this ⊢
    have hn : ∀ i, i < 12 → 3 + i < 15 := by omega
    obtain ⟨d1, d2, d3, n, d4, d5, d6, d7⟩ := this
    refine ⟨?_, ?_, ?_, n, d4, ?_, ?_, ?_⟩
    · simpa [stickC, stickF, cS1, cS2, cA1, cA2, cA3, cL1, cL2, cL3, gl_setG, gl_setM, mb_setM, mb_setG, kd_setM, kd_setG, upd_if, updL_if, hq] using d1
    · simpa [stickC, stickF, cS1, cS2, cA1, cA2, cA3, cL1, cL2, cL3, gl_setG, gl_setM, mb_setM, mb_setG, kd_setM, kd_setG, upd_if, updL_if] using d2
    · simpa [stickC, stickF, cS1, cS2, cA1, cA2, cA3, cL1, cL2, cL3, gl_setG, gl_setM, mb_setM, mb_setG, kd_setM, kd_setG, upd_if, updL_if, hq] using d3
    · simpa [stickC, stickF, cS1, cS2, cA1, cA2, cA3, cL1, cL2, cL3, gl_setG, gl_setM, mb_setM, mb_setG, kd_setM, kd_setG, upd_if, updL_if, hq] using d5
    · intro i hi
      have := d6 i hi
      simpa [stickC, stickF, cS1, cS2, cA1, cA2, cA3, cL1, cL2, cL3, gl_setG, gl_setM, mb_setM, mb_setG, kd_setM, kd_setG, upd_if, updL_if, hq, hn i (by omega)] using this
    · intro m hm hc
      have := d7 m hm (by simpa [stickC, stickF, cS1, cS2, cA1, cA2, cA3, cL1, cL2, cL3, gl_setG, gl_setM, mb_setM, mb_setG, kd_setM, kd_setG, upd_if, updL_if] using hc)
      rcases this with z | ⟨i, z1, z2, z3⟩
      · exact Or.inl (by simpa [stickC, stickF, cS1, cS2, cA1, cA2, cA3, cL1, cL2, cL3, gl_setG, gl_setM, mb_setM, mb_setG, kd_setM, kd_setG, upd_if, updL_if] using z)
      · exact Or.inr ⟨i, z1, by simpa [stickC, stickF, cS1, cS2, cA1, cA2, cA3, cL1, cL2, cL3, gl_setG, gl_setM, mb_setM, mb_setG, kd_setM, kd_setG, upd_if, updL_if] using z2, by simpa [stickC, stickF, cS1, cS2, cA1, cA2, cA3, cL1, cL2, cL3, gl_setG, gl_setM, mb_setM, mb_setG, kd_setM, kd_setG, upd_if, updL_if, hq, hn i (by omega)] using z3⟩
  · simp [stickC, stickF, cS1, cS2, cA1, cA2, cA3, cL1, cL2, cL3, gl_setG, gl_setM, mb_setM, mb_setG, kd_setM, kd_setG, upd_if, updL_if, ← a1, h10]
  · simp [stickC, stickF, cS1, cS2, cA1, cA2, cA3, cL1, cL2, cL3, gl_setG, gl_setM, mb_setM, mb_setG, kd_setM, kd_setG, upd_if, updL_if, ← a2, h10]
  · simpa [stickC, stickF, cS1, cS2, cA1, cA2, cA3, cL1, cL2, cL3, gl_setG, gl_setM, mb_setM, mb_setG, kd_setM, kd_setG, upd_if, updL_if] using a3
  · simpa [stickC, stickF, cS1, cS2, cA1, cA2, cA3, cL1, cL2, cL3, gl_setG, gl_setM, mb_setM, mb_setG, kd_setM, kd_setG, upd_if, updL_if] using a4
  · simpa [stickC, stickF, cS1, cS2, cA1, cA2, cA3, cL1, cL2, cL3, gl_setG, gl_setM, mb_setM, mb_setG, kd_setM, kd_setG, upd_if, updL_if] using a5
  · simpa [stickC, stickF, cS1, cS2, cA1, cA2, cA3, cL1, cL2, cL3, gl_setG, gl_setM, mb_setM, mb_setG, kd_setM, kd_setG, upd_if, updL_if] using a6
  · intro m hm
    simpa [stickC, stickF, cS1, cS2, cA1, cA2, cA3, cL1, cL2, cL3, gl_setG, gl_setM, mb_setM, mb_setG, kd_setM, kd_setG, upd_if, updL_if, hw7, show ¬ (10 = 7 + w / 31) by omega] using a7 m hm
  · simpa [stickC, stickF, cS1, cS2, cA1, cA2, cA3, cL1, cL2, cL3, gl_setG, gl_setM, mb_setM, mb_setG, kd_setM, kd_setG, upd_if, updL_if] using a8
  · refine ⟨fun q => ?_, fun q => ?_⟩
    · simpa [stickC, stickF, cS1, cS2, cA1, cA2, cA3, cL1, cL2, cL3, gl_setG, gl_setM, mb_setM, mb_setG, kd_setM, kd_setG, upd_if, updL_if] using hE.1 hu
    · simp [stickC, stickF, cS1, cS2, cA1, cA2, cA3, cL1, cL2, cL3, gl_setG, gl_setM, mb_setM, mb_setG, kd_setM, kd_setG, upd_if, updL_if, hu] at q
