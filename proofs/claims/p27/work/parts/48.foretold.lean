/-! The forecast holds. -/
theorem ok_settle' {z : ZZ} (h : ZI z) {x : Int32} {c' : CS} (hx : 0 ≤ x) (hc' : CInv c') (hw : ∀ P : Int32 → CS → Prop, P x c' → wp_Clb_settleAll z.1 P) {Post : Int32 → ZZ → Prop} (hK : ∀ z', ZI z' → Top z' (stZ z) → z'.1 = c' → Post x z') : wp_Ham_settle z Post :=
  ok_settle h hx hc' hw (fun _ _ h1 h2 => hK _ h1 h2 rfl)
theorem add_back (a b : Int32) : b = a + (b - a) := by grind
section FORE2
variable {s : SS} {w N j : Nat} {V : Int64} {b x0 : Int32} {c0 : CS} {F1 F2 : Nat → CS} {X1 X2 : Nat → Int32} {Post : Int32 → ZZ → Prop}
theorem f_262 {z : ZZ} (hz : ZI z) (he : EqS (stZ z) s) (hV : V = allV s.1 s.2.1 s.2.2.2.1 w N) (hI : Inv s.1 w N) (hu : s.1.1 1 = 0) (hsI : SI s) (hj : j < N) (hx0 : 0 ≤ x0) (hI0 : Inv c0 w N) (hw0 : ∀ P : Int32 → CS → Prop, P x0 c0 → wp_Clb_settleAll s.1 P) (ho : ∀ k, k < 4 → Out s.1 j k (F1 k) (F2 k) (X1 k) (X2 k) ∧ (s.1.2.1 9 j = nI k → F2 k = c0 ∧ X2 k = x0) ∧ (¬ s.1.2.1 9 j = nI k → 0 ≤ X1 k ∧ Inv (F1 k) w N ∧ (F1 k).1 1 = 0)) (hb : Best s.1 F2 j 4 b) (hP : ∀ z', ZI z' → Post 1 z') : wb_Law_isForetold_262 Post (nI j) V (c0.2.1 11 j) (c0.2.1 4 j - s.1.2.1 4 j) b (s.1.2.1 4 j) (s.1.2.1 9 j) z := by
  have ec : z.1 = s.1 := he.1
  have hG := hI.1.2.1
  unfold wb_Law_isForetold_262
  refine ok_settle' (z := z) hz hx0 ⟨w, N, hI0⟩ (by rw [ec]; exact hw0) (fun z1 hz1 ht1 e1 => ⟨fun y => absurd y (Int32.not_lt.mpr hx0), fun _ => ?_⟩)
  have hI1 : Inv z1.1 w N := by rw [e1]; exact hI0
  have hG1 := hI1.1.2.1
  refine o_member (z := z1) (i := 9) hG1 hj (by omega) ?_
  have m9 : memV z1.1 w j 9 = c0.2.1 4 j := by rw [e1]; rfl
  rw [m9]
  refine ⟨fun _ => o_member (z := z1) (i := 10) hG1 hj (by omega) ?_, fun y => absurd (add_back _ _) y⟩
  have m10 : memV z1.1 w j 10 = c0.2.1 11 j := by rw [e1]; rfl
  rw [m10]
  refine ⟨fun _ => o_sound (z := z1) hI1 ⟨fun y => absurd y (by decide), fun _ => undo_ok (z := z1) (s := stZ z) hz1 ht1 hz.1 (fun m z2 hm hz2 he2 _ => ⟨fun _ => ⟨5, ?_⟩, fun y => absurd (nI_nn (by omega)) y⟩)⟩, fun y => absurd rfl y⟩
  refine f_315 (s := s) hI hu hsI hj (fun k hk => ⟨(ho k hk).1, fun e P hP => ?_, (ho k hk).2.2⟩) hb (fun z3 hz3 he3 => ?_) 5 0 z2 hz2 (he2.trans he) (by omega) (by omega)
  · obtain ⟨y1, y2⟩ := (ho k hk).2.1 e
    rw [y1, y2] at hP
    exact hw0 P hP
  · have ec3 : z3.1 = s.1 := he3.1
    refine o_all (z := z3) (w := w) (N := N) (by rw [ec3]; exact hG) ?_
    have : allV z3.1 z3.2.1 z3.2.2.2.1 w N = V := by
      have f1 : z3.2.1 = s.2.1 := he3.2.1
      have f2 : z3.2.2.2.1 = s.2.2.2.1 := he3.2.2.2.1
      rw [ec3, f1, f2, hV]
    rw [this]
    exact ⟨fun _ => hP z3 hz3, fun y => absurd (cmp_self V) y⟩
theorem f_229 {z : ZZ} {s0 s1 : Int32} (hz : ZI z) (he : EqS (stZ z) s) (hV : V = allV s.1 s.2.1 s.2.2.2.1 w N) (hI : Inv s.1 w N) (hu : s.1.1 1 = 0) (hsI : SI s) (hj : j < N) (hx0 : 0 ≤ x0) (hI0 : Inv c0 w N) (hw0 : ∀ P : Int32 → CS → Prop, P x0 c0 → wp_Clb_settleAll s.1 P) (ho : ∀ k, k < 4 → Out s.1 j k (F1 k) (F2 k) (X1 k) (X2 k) ∧ (s.1.2.1 9 j = nI k → F2 k = c0 ∧ X2 k = x0) ∧ (¬ s.1.2.1 9 j = nI k → 0 ≤ X1 k ∧ Inv (F1 k) w N ∧ (F1 k).1 1 = 0)) (hb : Best s.1 F2 j 4 b) (hP : ∀ z', ZI z' → Post 1 z') {bo : Int32} (hw : c0.2.1 4 j - s.1.2.1 4 j = s1 - s0 + bo) (hk : ¬ c0.2.1 11 j < 0 → c0.2.1 11 j = s.1.2.1 9 j) : wb_Law_isForetold_229 Post (nI j) V bo (c0.2.1 11 j) (c0.2.1 4 j - s.1.2.1 4 j) b (s.1.2.1 4 j) s0 s1 z := by
  have ec : z.1 = s.1 := he.1
  have hG : InvG z.1 w N := by rw [ec]; exact hI.1.2.1
  have main := f_262 (Post := Post) hz he hV hI hu hsI hj hx0 hI0 hw0 ho hb hP
  unfold wb_Law_isForetold_229
  intro x ex
  refine o_member (z := z) (i := 2) hG hj (by omega) ?_
  have m2 : memV z.1 w j 2 = s.1.2.1 9 j := by rw [ec]; rfl
  rw [m2, ex]
  exact ⟨fun _ => ⟨fun _ => main, fun y => ⟨fun _ => main, fun q => absurd (hk y) q⟩⟩, fun y => absurd hw y⟩
end FORE2
theorem o_fore {z : ZZ} {y : Int32} {Post : Int32 → ZZ → Prop} (h : ZI z) (hP : ∀ z', ZI z' → Post 1 z') : wp_Law_isForetold z y Post := by
  obtain ⟨w, N, hI⟩ := h.1.1
  have hI : Inv z.1 w N := hI
  have hG := hI.1.2.1
  have hN := hG.2.1
  have hw := hG.1
  unfold wp_Law_isForetold
  refine o_count (z := z) (i := 1) hG (by omega) ?_
  have e1 : cntV z.1 z.2.1 z.2.2.2.1 N 1 = nI N := hG.2.2.2.1
  rw [e1]
  refine ⟨fun q => ?_, fun q => ⟨q, ?_⟩⟩
  · have h0 : N = 0 := (nI_eq (b := 0) (by omega) (by omega)).mp q
    exact o_would_n (z := z) hG h0 ⟨fun _ => o_best_n (z := z) hG h0 ⟨fun _ => hP z h, fun y => absurd rfl y⟩, fun y => absurd rfl y⟩
  · have hN0 : 0 < N := by
      rcases Nat.eq_zero_or_pos N with z0 | z0
      · exact absurd (by rw [z0]; rfl) q
      · exact z0
    obtain ⟨j, hj, ej⟩ := low_ex y hN0 (by omega)
    rw [ej]
    intro x3 e3
    rw [e3]
    refine o_all (z := z) hG ?_
    intro V eV
    have hj12 : j < 12 := by omega
    by_cases hu : z.1.1 1 = 0
    · obtain ⟨x0, c0, hx0, hI0, hf0, hS0, hw0⟩ := settle_ok hI hu
      have hc0 : Can c0 := hI0.1.1
      obtain ⟨F1, F2, X1, X2, ho⟩ := outs hI hu hj hc0 hw0
      refine o_would0 (z := z) hI hu hj (o_would1 (z := z) hI hu hj h.2.2.2.2 hw0 (o_would2 (z := setT z c0) hI hu hj hc0 hw0 (o_best (z := setT z c0) hI hu hj hc0 (fun k hk => (ho k hk).1) (fun b t ht hb => ?_))))
      have hz1 : ZI (setT z t) := ZI_T h ht
      obtain ⟨-, -, -, -, P, p1, p2⟩ := hI.a hu
      have hP2 : P ≤ 36600 := by have := cap_le (c := z.1) hw; omega
      have hle := shN_le (c := z.1) (M := 12) (fun m hm => (st_eq (hI.1.2.2.1 m hm) hw).2) N hN
      obtain ⟨b1, b2⟩ := bon_nat hw (hI.1.2.2.1 j hj12) hj p1 hP2 hN hle
      obtain ⟨s, s1, s2, s3⟩ := hS0 j hj
      have hpe : c0.2.1 4 j - z.1.2.1 4 j = nI (bnat z.1 N P j + s * 10) := by
        have e : c0.2.1 4 j - z.1.2.1 4 j = bon z.1 N j + nI s * 10 := by
          rw [s2]
          grind
        rw [e, b1, show (10 : Int32) = nI 10 from rfl, pk_mul, nI_add]
      refine o_count (z := setT z t) (i := 2) hG (by omega) ?_
      have e2 : cntV (setT z t).1 (setT z t).2.1 (setT z t).2.2.2.1 N 2 = 0 := if_pos hu
      rw [e2]
      refine ⟨fun y => absurd y (by decide), fun _ => o_all (z := setT z t) hG ?_⟩
      have ev : allV (setT z t).1 (setT z t).2.1 (setT z t).2.2.2.1 w N = V := eV.symm
      rw [ev]
      refine ⟨fun _ => ⟨fun y => ?_, fun _ => o_count (z := setT z t) (i := 4) hG (by omega) ⟨fun y => ?_, fun _ => ⟨fun y => ?_, fun _ => o_member (z := setT z t) (i := 5) hG hj (by omega) ?_⟩⟩⟩, fun y => absurd (cmp_self V) y⟩
      · rw [b1] at y
        exact absurd y (Int32.not_lt.mpr (nI_nn (by omega)))
      · have e4 : cntV (setT z t).1 (setT z t).2.1 (setT z t).2.2.2.1 N 4 = nI P := p1
        rw [e4, b1] at y
        exact absurd y (Int32.not_lt.mpr (nI_le b2 (by omega)))
      · have y : c0.2.1 4 j - z.1.2.1 4 j < bon z.1 N j := y
        rw [hpe, b1] at y
        exact absurd y (Int32.not_lt.mpr (nI_le (by omega) (by omega)))
      · have hdr : z.1.2.1 5 j = 1 → bon z.1 N j = 0 := fun y => by
          unfold bon
          rw [if_neg (fun q => by
            have := (of_decide_eq_true q).1
            rw [y] at this
            exact absurd this (by decide))]
        have hA := fun (s0 s1 : Int32) (hq : c0.2.1 4 j - z.1.2.1 4 j = s1 - s0 + bon z.1 N j) (hk : ¬ c0.2.1 11 j < 0 → c0.2.1 11 j = z.1.2.1 9 j) => f_229 (s := stZ z) (z := setT z t) (Post := Post) (V := V) hz1 (EqS.rf _) eV hI hu h.1 hj hx0 hI0 hw0 ho hb hP hq hk
        refine ⟨fun dr => ⟨fun _ => ?_, fun y => absurd (hdr dr) y⟩, fun _ => ?_⟩
        all_goals
          rcases s3 with ⟨g1, g2⟩ | ⟨k, p, k1, k2, g1, g2, g3, g4⟩
          · rw [g1] at hA ⊢
            refine ⟨fun _ => o_member (z := setT z t) (i := 9) hG hj (by omega) (o_member (z := setT z t) (i := 0) hG hj (by omega) ⟨fun y => absurd y (by decide), fun _ => hA _ _ ?_ (fun y => absurd (by decide) y)⟩), fun y => absurd (by decide) y⟩
            show c0.2.1 4 j - z.1.2.1 4 j = 10 * z.1.2.1 0 j - 0 + bon z.1 N j
            rw [s2, g2]
            grind
          · rw [g1] at hA ⊢
            have hnn : 0 ≤ nI k := nI_nn (by omega)
            have hb0 : 0 ≤ b := by
              rcases hb with ⟨y1, y2⟩ | ⟨m, y1, y2, y3, y4⟩
              · refine absurd ?_ (y2 k k1)
                show (F2 k).2.1 11 j = nI k
                rw [((ho k k1).2.1 g2).1]
                exact g1
              · rw [y2]
                exact nI_nn (by omega)
            refine ⟨fun y => absurd y (Int32.not_lt.mpr hnn), fun _ => ⟨fun _ => o_member (z := setT z t) (i := 9) hG hj (by omega) (o_member (z := setT z t) (i := 0) hG hj (by omega) ⟨fun _ => o_hamper (z := setT z t) (k := k) (i := 0) k1 (by omega) (hA _ _ ?_ (fun _ => g2.symm)), fun y => absurd hnn y⟩), fun y => absurd hb0 y⟩⟩
            show c0.2.1 4 j - z.1.2.1 4 j = 10 * z.1.2.1 0 j - 10 * z.1.2.1 7 k + bon z.1 N j
            rw [s2, g4, g3, ← nI_add]
            grind
    · have e2 : cntV z.1 z.2.1 z.2.2.2.1 N 2 = 1 := if_neg hu
      refine o_would_s (z := z) (i := 0) hG hu hj (by omega) (o_would_s (z := z) (i := 1) hG hu hj (by omega) (o_would_s (z := z) (i := 2) hG hu hj (by omega) (o_best_s (z := z) hG hu hj (o_count (z := z) (i := 2) hG (by omega) ?_))))
      rw [e2]
      refine ⟨fun _ => ⟨fun _ => ⟨fun _ => ⟨fun _ => no_settle (z := z) h hu (fun fr hz => ⟨fun _ => o_all (z := mkZ (stZ z) z.2.2.2.2.2.1 fr z.2.2.2.2.2.2.2.1 z.2.2.2.2.2.2.2.2) hG ?_, fun y => absurd rfl y⟩), fun y => absurd rfl y⟩, fun y => absurd rfl y⟩, fun y => absurd rfl y⟩, fun y => absurd rfl y⟩
      have ev : allV (mkZ (stZ z) z.2.2.2.2.2.1 fr z.2.2.2.2.2.2.2.1 z.2.2.2.2.2.2.2.2).1 (mkZ (stZ z) z.2.2.2.2.2.1 fr z.2.2.2.2.2.2.2.1 z.2.2.2.2.2.2.2.2).2.1 (mkZ (stZ z) z.2.2.2.2.2.1 fr z.2.2.2.2.2.2.2.1 z.2.2.2.2.2.2.2.2).2.2.2.1 w N = V := eV.symm
      rw [ev]
      exact ⟨fun _ => hP _ hz, fun y => absurd (cmp_self V) y⟩
