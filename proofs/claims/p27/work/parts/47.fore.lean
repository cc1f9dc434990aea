/-! Settling does what was told, the best kind is got. -/
theorem cmp_self (a : Int64) : lg_cmp a a = 0 := by
  unfold lg_cmp
  have : ¬ a > a := fun h => by
    have := Int64.lt_iff_toInt_lt.mp h
    omega
  rw [if_neg this]
  simp
theorem low_and (v : Int32) : ∃ a, a < 2 ^ 31 ∧ v &&& 2147483647 = nI a := by
  refine ⟨v.toBitVec.toNat % 2 ^ 31, Nat.mod_lt _ (by decide), ?_⟩
  apply Int32.toBitVec_inj.mp
  rw [Int32.toBitVec_and]
  apply BitVec.eq_of_toNat_eq
  rw [BitVec.toNat_and]
  show v.toBitVec.toNat &&& (2 ^ 31 - 1) = (v.toBitVec.toNat % 2 ^ 31) % 2 ^ 32
  rw [Nat.and_two_pow_sub_one_eq_mod, Nat.mod_eq_of_lt (a := v.toBitVec.toNat % 2 ^ 31)]
  exact Nat.lt_of_lt_of_le (Nat.mod_lt _ (by decide)) (by decide)
theorem low_ex (v : Int32) {n : Nat} (h0 : 0 < n) (hn : n < 2 ^ 31) : ∃ j, j < n ∧ pf_Law_low v (nI n) = nI j := by
  obtain ⟨a, h1, h2⟩ := low_and v
  refine ⟨a % n, Nat.mod_lt _ h0, ?_⟩
  unfold pf_Law_low
  rw [h2]
  exact pk_rem h1 h0 hn
theorem Top_T {z : ZZ} {t : CS} {s : SS} (h : Top z s) : Top (setT z t) s := h
/-- all that may come of a kind, for each of the four -/
theorem outs {c : CS} {w N j : Nat} {x0 : Int32} {c0 : CS} (hI : Inv c w N) (hu : c.1 1 = 0) (hj : j < N) (hc0 : Can c0) (h0 : ∀ P : Int32 → CS → Prop, P x0 c0 → wp_Clb_settleAll c P) : ∃ (F1 F2 : Nat → CS) (X1 X2 : Nat → Int32), ∀ k, k < 4 → Out c j k (F1 k) (F2 k) (X1 k) (X2 k) ∧ (c.2.1 9 j = nI k → F2 k = c0 ∧ X2 k = x0) ∧ (¬ c.2.1 9 j = nI k → 0 ≤ X1 k ∧ Inv (F1 k) w N ∧ (F1 k).1 1 = 0) := by
  have hx : ∀ k : Nat, ∃ q : CS × CS × Int32 × Int32, k < 4 → Out c j k q.1 q.2.1 q.2.2.1 q.2.2.2 ∧ (c.2.1 9 j = nI k → q.2.1 = c0 ∧ q.2.2.2 = x0) ∧ (¬ c.2.1 9 j = nI k → 0 ≤ q.2.2.1 ∧ Inv q.1 w N ∧ q.1.1 1 = 0) := by
    intro k
    by_cases hk : k < 4
    · by_cases e : c.2.1 9 j = nI k
      · exact ⟨(c, c0, -2, x0), fun _ => ⟨⟨fun P hP => choose_no hI hj hk (Or.inr e) P hP, h0, hc0⟩, fun _ => ⟨rfl, rfl⟩, fun q => absurd e q⟩⟩
      · obtain ⟨x1, c1, i1, i2, i3, i4⟩ := choose_ok hI hj hk hu e
        have hu1 : c1.1 1 = 0 := by rw [i3.1]; exact hu
        obtain ⟨x2, c2, y1, y2, y3, y4, y5⟩ := settle_ok i2 hu1
        exact ⟨(c1, c2, x1, x2), fun _ => ⟨⟨i4, y5, y2.1.1⟩, fun q => absurd q e, fun _ => ⟨i1, i2, hu1⟩⟩⟩
    · exact ⟨(c, c, 0, 0), fun q => absurd q hk⟩
  obtain ⟨F, hF⟩ := Classical.axiomOfChoice hx
  exact ⟨fun k => (F k).1, fun k => (F k).2.1, fun k => (F k).2.2.1, fun k => (F k).2.2.2, hF⟩
theorem ok_choose {z : ZZ} {p1 p2 : Int32} (h : ZI z) {x : Int32} {c' : CS} (hx : 0 ≤ x) (hc' : CInv c') (hw : ∀ P : Int32 → CS → Prop, P x c' → wp_Clb_chooseKind z.1 p1 p2 P) {Post : Int32 → ZZ → Prop} (hK : ∀ his fr, ZI (mkZ (c', z.2.1, z.2.2.1, z.2.2.2.1, z.2.2.2.2.1) his fr z.2.2.2.2.2.2.2.1 z.2.2.2.2.2.2.2.2) → Top (mkZ (c', z.2.1, z.2.2.1, z.2.2.2.1, z.2.2.2.2.1) his fr z.2.2.2.2.2.2.2.1 z.2.2.2.2.2.2.2.2) (stZ z) → Post x (mkZ (c', z.2.1, z.2.2.1, z.2.2.2.1, z.2.2.2.2.1) his fr z.2.2.2.2.2.2.2.1 z.2.2.2.2.2.2.2.2)) : wp_Ham_choose z p1 p2 Post :=
  act_ok (cw := fun c P => wp_Clb_chooseKind c p1 p2 P) h hx hc' hw hK
theorem ok_settle {z : ZZ} (h : ZI z) {x : Int32} {c' : CS} (hx : 0 ≤ x) (hc' : CInv c') (hw : ∀ P : Int32 → CS → Prop, P x c' → wp_Clb_settleAll z.1 P) {Post : Int32 → ZZ → Prop} (hK : ∀ his fr, ZI (mkZ (c', z.2.1, z.2.2.1, z.2.2.2.1, z.2.2.2.2.1) his fr z.2.2.2.2.2.2.2.1 z.2.2.2.2.2.2.2.2) → Top (mkZ (c', z.2.1, z.2.2.1, z.2.2.2.1, z.2.2.2.2.1) his fr z.2.2.2.2.2.2.2.1 z.2.2.2.2.2.2.2.2) (stZ z) → Post x (mkZ (c', z.2.1, z.2.2.1, z.2.2.2.1, z.2.2.2.2.1) his fr z.2.2.2.2.2.2.2.1 z.2.2.2.2.2.2.2.2)) : wp_Ham_settle z Post :=
  act_ok (cw := fun c P => wp_Clb_settleAll c P) h hx hc' hw hK
theorem no_settle {z : ZZ} (h : ZI z) (hu : ¬ z.1.1 1 = 0) {Post : Int32 → ZZ → Prop} (hK : ∀ fr, ZI (mkZ (stZ z) z.2.2.2.2.2.1 fr z.2.2.2.2.2.2.2.1 z.2.2.2.2.2.2.2.2) → Post (-2) (mkZ (stZ z) z.2.2.2.2.2.1 fr z.2.2.2.2.2.2.2.1 z.2.2.2.2.2.2.2.2)) : wp_Ham_settle z Post :=
  act_err (cw := fun c P => wp_Clb_settleAll c P) h (by decide) (fun P q => settle_no hu P q) hK
section FORE
variable {c : CS} {s : SS} {w N j : Nat} {V : Int64} {b : Int32} {F1 F2 : Nat → CS} {X1 X2 : Nat → Int32} {Post : Int32 → ZZ → Prop} {K : Int64 → ZZ → Prop}
/-- the comparison of kind k with the best -/
theorem f_416 {z : ZZ} {k : Nat} {g : Int32} {R : Int32 → Int64 → Int32 → Int32 → Int32 → ZZ → Prop} (hk : k < 4) (hb : Best z.1 F2 j 4 b) (hg1 : ¬ g = 0 → Gt F2 j k) (h : ∀ x : Int32, x = nI k + 1 → R (nI j) V b (z.1.2.1 9 j) x z) : wb_Law_isForetold_416 Post R K (nI j) V b (z.1.2.1 9 j) (nI k) g z := by
  unfold wb_Law_isForetold_416
  refine ⟨fun _ => h, fun y => ?_⟩
  have hG := hg1 y
  rcases hb with ⟨-, b2⟩ | ⟨m, m1, m2, m3, m4⟩
  · exact absurd hG (b2 k hk)
  · obtain ⟨l1, l2⟩ := m4 k hk hG
    have e1 : hamV z.1 k 0 = z.1.2.1 7 k := rfl
    have e2 : hamV z.1 m 0 = z.1.2.1 7 m := rfl
    rw [m2] at h ⊢
    refine o_hamper (z := z) (k := k) (i := 0) hk (by omega) (o_hamper (z := z) (k := m) (i := 0) m1 (by omega) ?_)
    rw [e1, e2]
    refine ⟨fun y => absurd y (Int32.not_lt.mpr l1), fun _ => o_hamper (z := z) (k := k) (i := 0) hk (by omega) (o_hamper (z := z) (k := m) (i := 0) m1 (by omega) ?_)⟩
    rw [e1, e2]
    exact ⟨fun y => ⟨fun _ => h, fun q => absurd (nI_le (l2 y) (by omega)) q⟩, fun _ => h⟩
theorem f_384 {z : ZZ} {k : Nat} {g : Int32} {R : Int32 → Int64 → Int32 → Int32 → Int32 → ZZ → Prop} (hk : k < 4) (hb : Best z.1 F2 j 4 b) (hg : (g = 1 ∧ Gt F2 j k) ∨ (g = 0 ∧ ¬ Gt F2 j k)) (h : ∀ x : Int32, x = nI k + 1 → R (nI j) V b (z.1.2.1 9 j) x z) : wb_Law_isForetold_384 Post R K (nI j) V b (z.1.2.1 9 j) (nI k) g z := by
  have hg1 : ¬ g = 0 → Gt F2 j k := fun y => by
    rcases hg with q | q
    · exact q.2
    · exact absurd q.1 y
  have t404 : wb_Law_isForetold_404 Post R K (nI j) V b (z.1.2.1 9 j) (nI k) g z := by
    unfold wb_Law_isForetold_404
    refine ⟨fun e => ⟨fun y => ?_, fun _ => f_416 hk hb hg1 h⟩, fun _ => f_416 hk hb hg1 h⟩
    exfalso
    have hn : ¬ Gt F2 j k := by
      rcases hg with q | q
      · exact absurd (q.1.symm.trans y) (by decide)
      · exact q.2
    rcases hb with ⟨b1, b2⟩ | ⟨m, m1, m2, m3, m4⟩
    · exact neg9_ne' (e.trans b1)
    · have : k = m := (nI_eq (by omega) (by omega)).mp (e.trans m2)
      subst this
      exact hn m3
  unfold wb_Law_isForetold_384
  refine ⟨fun y => ⟨fun _ => t404, fun q => ⟨fun _ => t404, fun _ => ?_⟩⟩, fun y => ⟨fun _ => t404, fun q => ⟨fun _ => t404, fun q2 => ?_⟩⟩⟩
  · exfalso
    rcases hb with ⟨b1, b2⟩ | ⟨m, m1, m2, m3, m4⟩
    · exact b2 k hk (hg1 q)
    · rw [m2] at y
      exact absurd y (Int32.not_lt.mpr (nI_nn (by omega)))
  · exfalso
    rcases hg with z1 | z1
    · exact q z1.1
    · exact q2 z1.1
/-- the loop over the kinds -/
theorem f_315 (hI : Inv s.1 w N) (hu : s.1.1 1 = 0) (hsI : SI s) (hj : j < N) (ho : ∀ k, k < 4 → Out s.1 j k (F1 k) (F2 k) (X1 k) (X2 k) ∧ (s.1.2.1 9 j = nI k → ∀ P : Int32 → CS → Prop, P (X2 k) (F2 k) → wp_Clb_settleAll s.1 P) ∧ (¬ s.1.2.1 9 j = nI k → 0 ≤ X1 k ∧ Inv (F1 k) w N ∧ (F1 k).1 1 = 0)) (hb : Best s.1 F2 j 4 b) (hK : ∀ z : ZZ, ZI z → EqS (stZ z) s → K V z) : ∀ (n k : Nat) (z : ZZ), ZI z → EqS (stZ z) s → k ≤ 4 → 4 - k < n → wl_Law_isForetold_315 Post K n (nI j) V b (s.1.2.1 9 j) (nI k) z := by
  intro n
  induction n with
  | zero => intro k z _ _ h1 h2; omega
  | succ n ih =>
    intro k z hz he h1 h2
    unfold wl_Law_isForetold_315
    refine ⟨fun _ => hK z hz he, fun q => ?_⟩
    have hk := lt_of (L := 4) (by omega) h1 q
    have ec : z.1 = s.1 := he.1
    obtain ⟨o1, o2, o3⟩ := ho k hk
    have nx : ∀ z' : ZZ, ZI z' → EqS (stZ z') s → ∀ x : Int32, x = nI k + 1 → wl_Law_isForetold_315 Post K n (nI j) V b (s.1.2.1 9 j) x z' := fun z' h1' h2' x ex => by
      rw [ex, nI_1]
      exact ih (k + 1) z' h1' h2' (by omega) (by omega)
    have t384 : ∀ (z' : ZZ) (g : Int32), ZI z' → EqS (stZ z') s → ((g = 1 ∧ Gt F2 j k) ∨ (g = 0 ∧ ¬ Gt F2 j k)) → wb_Law_isForetold_384 Post (wl_Law_isForetold_315 Post K n) K (nI j) V b (s.1.2.1 9 j) (nI k) g z' := fun z' g h1' h2' hg => by
      have ec' : z'.1 = s.1 := h2'.1
      have := f_384 (z := z') (K := K) (Post := Post) (V := V) (R := wl_Law_isForetold_315 Post K n) hk (by rw [ec']; exact hb) hg (by rw [ec']; exact nx z' h1' h2')
      rw [ec'] at this
      exact this
    -- what the forecast says
    have t352 : ∀ (z' : ZZ) (a14 : Int32), ZI z' → Inv z'.1 w N → z'.1.1 1 = 0 → (∀ P : Int32 → CS → Prop, P (X2 k) (F2 k) → wp_Clb_settleAll z'.1 P) → (∀ g : Int32, ((g = 1 ∧ Gt F2 j k) ∨ (g = 0 ∧ ¬ Gt F2 j k)) → wb_Law_isForetold_368 Post (wl_Law_isForetold_315 Post K n) K (nI j) V b (s.1.2.1 9 j) (nI k) a14 g (setT z' (F2 k))) → wb_Law_isForetold_352 Post (wl_Law_isForetold_315 Post K n) K (nI j) V b (s.1.2.1 9 j) (nI k) a14 z' := fun z' a14 h1' h2' h3' h4' hh => by
      unfold wb_Law_isForetold_352
      refine o_would1 (z := z') h2' h3' hj h1'.2.2.2.2 h4' ⟨fun y => hh 1 (Or.inl ⟨rfl, y⟩), fun y => hh 0 (Or.inr ⟨rfl, y⟩)⟩
    refine ⟨fun e => ?_, fun e => ?_⟩
    · unfold wb_Law_isForetold_333
      refine ⟨fun _ => t352 z 0 hz (by rw [ec]; exact hI) (by rw [ec]; exact hu) (by rw [ec]; exact o2 e.symm) (fun g hg => ?_), fun y => absurd rfl y⟩
      unfold wb_Law_isForetold_368
      exact ⟨fun _ => t384 (setT z (F2 k)) g (ZI_T hz o1.2.2) he hg, fun y => absurd rfl y⟩
    · obtain ⟨p1, p2, p3⟩ := o3 (fun y => e y.symm)
      unfold wb_Law_isForetold_333
      refine ⟨fun y => absurd y (by decide), fun _ => ?_⟩
      have hch : ∀ P : Int32 → CS → Prop, P (X1 k) (F1 k) → wp_Clb_chooseKind z.1 (nI j) (nI k) P := by rw [ec]; exact o1.1
      refine ok_choose (z := z) hz p1 ⟨w, N, p2⟩ hch (fun his fr hz' ht => ⟨fun _ => ?_, fun y => absurd p1 y⟩)
      refine t352 _ 1 hz' p2 p3 o1.2.1 (fun g hg => ?_)
      unfold wb_Law_isForetold_368
      refine ⟨fun y => absurd y (by decide), fun _ => ?_⟩
      exact undo_ok (s := stZ z) (ZI_T hz' o1.2.2) (Top_T ht) hz.1 (fun m z' hm hz2 he2 _ => ⟨fun _ => t384 z' g hz2 (he2.trans he) hg, fun y => absurd (nI_nn (by omega)) y⟩)
end FORE
