/-! Looking: a member. -/
theorem t_goodWeeks {u : RS} {j : Nat} {Post : Int32 → RS → Prop} (hj : j < 12) (h : Post (nI (fb_ct (goodR u.1 j) 61)) u) : wp_Mod_goodWeeks u (nI j) Post := by
  have go : ∀ n i, i ≤ 61 → 61 - i < n → wl_Mod_goodWeeks_4 Post (fun x v => Post x v) n (nI j) (nI (fb_ct (goodR u.1 j) i)) (nI i) u := by
    intro n
    induction n with
    | zero => intro i h1 h2; omega
    | succ n ih =>
      intro i h1 h2
      unfold wl_Mod_goodWeeks_4
      refine ⟨fun q => ?_, fun q => ?_⟩
      · have : i = 61 := by
          rcases Nat.lt_or_ge i 61 with z | z
          · exact absurd q (Int32.not_lt.mpr (show nI i ≤ nI 60 from nI_le (by omega) (by omega)))
          · omega
        subst this
        exact h
      · have hi : i ≤ 60 := by
          rcases Nat.lt_or_ge 60 i with z | z
          · have : i = 61 := by omega
            subst this
            exact absurd (by decide) q
          · exact z
        have hs := fb_ct_succ (goodR u.1 j) i
        refine s_isGoodWeek hj hi (fun y => ⟨fun x => absurd x (by decide), fun _ => ?_⟩) (fun y => ⟨fun _ => ?_, fun x => absurd rfl x⟩)
        · rw [if_pos y] at hs
          intro x ex x7 e7
          rw [ex, e7, nI_1, nI_1, ← hs]
          exact ih (i + 1) (by omega) (by omega)
        · rw [if_neg y] at hs
          intro x ex x7 e7
          rw [ex, e7, nI_1, Int32.add_zero, show fb_ct (goodR u.1 j) i = fb_ct (goodR u.1 j) (i + 1) by omega]
          exact ih (i + 1) (by omega) (by omega)
  exact ⟨62, go 62 0 (by omega) (by omega)⟩
theorem s_waitsAt {c : CS} {u : RS} {w N j : Nat} {Post : Int32 → RS → Prop} (hc : CP c u.1 w N) (hj : j < N) (h : Post (c.2.1 10 j) u) : wp_Mod_waitsAt u (nI j) Post := by
  have hN := hc.1.2.1
  have hj12 : j < 12 := by omega
  have m3 : u.1 (70 + 13 * j + 3) = c.2.1 9 j := (hc.2.1 j hj).2.2.2.1
  have m4 : u.1 (70 + 13 * j + 4) = (if ¬ c.2.1 9 j = -9 ∧ c.2.1 10 j = 0 then 1 else 0) := (hc.2.1 j hj).2.2.2.2.1
  unfold wp_Mod_waitsAt
  rw [ofc3 hj12, ofc4 hj12, m3, m4]
  refine ⟨ofi3 hj12, ?_⟩
  intro x1 e1
  rw [e1]
  obtain ⟨-, -, -, -, b5, -⟩ := hc.2.2.1 j hj12
  rcases b5 with ⟨z1, z2⟩ | ⟨k, hk, z1⟩
  · rw [z2] at h
    exact ⟨fun _ => h, fun q => absurd z1 q⟩
  · have ne : ¬ c.2.1 9 j = -9 := fun q => neg9_ne hk (q.symm.trans z1)
    refine ⟨fun q => absurd q ne, fun _ => ⟨ofi4 hj12, fun q => ?_, fun q => ?_⟩⟩
    · by_cases z0 : c.2.1 10 j = 0
      · rw [z0] at h
        exact h
      · rw [if_neg (fun y => z0 y.2)] at q
        exact absurd q (by decide)
    · have z0 : ¬ c.2.1 10 j = 0 := fun y => q (if_pos ⟨ne, y⟩)
      obtain ⟨d1, d2, d3, n, d4, d5, d6, d7⟩ := hc.2.2.2.2 k hk
      rcases d7 j hj12 z1 with y | ⟨i, y1, y2, y3⟩
      · exact absurd y z0
      · rw [z1]
        refine t_placeOf hk d4 d5 y1 y3 (fun i' hi' x => ?_) ?_
        · obtain ⟨m, x1, x2, x3, x4⟩ := d6 i' (by omega)
          have em : m = j := (nI_eq (by omega) (by omega)).mp (x2.symm.trans x)
          subst em
          have := (nI_eq (by omega) (by omega)).mp (x4.symm.trans y2)
          omega
        · rw [nI_1, ← y2]
          exact h
theorem p_member {z : ZZ} {r : RS} (h : TRx z r) {K : ZZ → RS → Prop} (hK : ∀ z' r', TRx z' r' → K z' r') {p1 p2 : Int32} {mw : (Int32 → RS → Prop) → Prop} (hmw : ∀ Post, wp_Mod_member r p1 p2 Post → mw Post) : wp_Ham_member z p1 p2 (fun x z1 => mw (fun y r1 => (x = y → K z1 r1) ∧ (¬ x = y → False))) := by
  obtain ⟨w, N, hc⟩ := h.cr
  have hN := hc.1.1.2.1
  have hw := hc.1.1.1
  have hc4 : z.1.1 4 = nI N := hc.1.1.2.2.2.2.1
  have ok : ∀ e e' : Int32, e = e' → (e = e' → K z r) ∧ (¬ e = e' → False) := fun e e' q => ⟨fun _ => hK _ _ h, fun y => absurd q y⟩
  unfold wp_Ham_member wp_Clb_tellOfMember
  refine k_exists hc4 hN (fun hM => ⟨fun q => absurd q (by decide), fun _ => ?_⟩) (fun hM => ⟨fun _ => hmw _ ?_, fun q => absurd rfl q⟩)
  rotate_left
  · unfold wp_Mod_member
    exact s_isMember hc.rg (fun q => absurd q hM) (fun _ => ⟨fun _ => ok _ _ rfl, fun q => absurd rfl q⟩)
  obtain ⟨j, hj, rfl⟩ := isM_of hM hN
  have hj12 : j < 12 := by omega
  have hin : vp_in (nI j) 12 := vp_in_nI hj12 (by omega)
  obtain ⟨g0, g1, g2, g3, g4, g5, g6, g9, g11, gg⟩ := hc.1.2.1 j hj
  have g10 : z.1.2.1 4 j = mb r.1 j 10 + 0 := hc.2.1.1.2.2.2.2.2.2 j hj
  rw [Int32.add_zero] at g10
  have hcI := hc.1.2.2.1 j hj12
  have cl : (nI j).toNatClampNeg = j := nI_clamp (by omega)
  have mem : ∀ e : Int32, (
      (p2 = 0 → e = mb r.1 j 0) ∧ (p2 = 1 → e = mb r.1 j 1) ∧ (p2 = 2 → e = mb r.1 j 3) ∧ (p2 = 3 → e = mb r.1 j 4) ∧ (p2 = 4 → e = z.1.2.1 10 j) ∧ (p2 = 5 → e = mb r.1 j 5) ∧ (p2 = 6 → e = nI (fb_ct (goodR r.1 j) 61)) ∧ (p2 = 7 → e = nI (rowV (goodR r.1 j) w)) ∧ (p2 = 8 → e = mb r.1 j 9) ∧ (p2 = 9 → e = mb r.1 j 10) ∧ (p2 = 10 → e = mb r.1 j 11) ∧ (¬ p2 = 0 → ¬ p2 = 1 → ¬ p2 = 2 → ¬ p2 = 3 → ¬ p2 = 4 → ¬ p2 = 5 → ¬ p2 = 6 → ¬ p2 = 7 → ¬ p2 = 8 → ¬ p2 = 9 → ¬ p2 = 10 → e = -1)) → mw (fun y r1 => (e = y → K z r1) ∧ (¬ e = y → False)) := by
    rintro e ⟨m0, m1, m2, m3, m4, m5, m6, m7, m8, m9, m10, m11⟩
    refine hmw _ ?_
    unfold wp_Mod_member
    refine s_isMember hc.rg (fun _ => ⟨fun q => absurd q (by decide), fun _ => ⟨fun q => ?_, fun q => ?_, fun q => ?_, fun q => ?_, fun q => ?_, fun q => ?_, fun q => ?_, fun q => ?_, fun q => ?_, fun q => ?_, fun q => ?_, fun q0 q1 q2 q3 q4 q5 q6 q7 q8 q9 q10 => ok _ _ (m11 q0 q1 q2 q3 q4 q5 q6 q7 q8 q9 q10)⟩⟩) (fun q => absurd hM q)
    · rw [q, ofc0 hj12]
      exact ⟨ofi0 hj12, ok _ _ (m0 q)⟩
    · rw [q, ofc1 hj12]
      exact ⟨ofi1 hj12, ok _ _ (m1 q)⟩
    · rw [q, show (2 : Int32) + 1 = 3 from rfl, ofc3 hj12]
      exact ⟨ofi3 hj12, ok _ _ (m2 q)⟩
    · rw [q, show (3 : Int32) + 1 = 4 from rfl, ofc4 hj12]
      exact ⟨ofi4 hj12, ok _ _ (m3 q)⟩
    · exact s_waitsAt hc.1 hj (ok _ _ (m4 q))
    · rw [ofc5 hj12]
      exact ⟨ofi5 hj12, ok _ _ (m5 q)⟩
    · exact t_goodWeeks hj12 (ok _ _ (m6 q))
    · exact t_rowOf hj12 hw hc.1.1.2.2.2.1 (ok _ _ (m7 q))
    · rw [q, show (8 : Int32) + 1 = 9 from rfl, ofc9 hj12]
      exact ⟨ofi9 hj12, ok _ _ (m8 q)⟩
    · rw [q, show (9 : Int32) + 1 = 10 from rfl, ofc10 hj12]
      exact ⟨ofi10 hj12, ok _ _ (m9 q)⟩
    · rw [q, show (10 : Int32) + 1 = 11 from rfl, ofc11 hj12]
      exact ⟨ofi11 hj12, ok _ _ (m10 q)⟩
  have e6 : pf_Lng_bitCount (z.1.2.2 j) = nI (fb_ct (goodR r.1 j) 61) := by
    rw [bitCount_eq, show 64 = 61 + 3 from rfl, fb_ct_tail 3 (fun i h1 h2 => hcI.2.2.2.2.2 i (by omega) (by omega))]
    exact congrArg nI (fb_ct_cong (fun i hi => ((hc.1.2.1 j hj).good (by omega)).symm))
  have rv : ∀ (a b : Nat → Bool), (∀ i, i ≤ w → a i = b i) → rowV a w = rowV b w := by
    intro a b hab
    unfold rowV
    rw [hab w (Nat.le_refl _), rowN_cong w (fun i hi => hab i (by omega))]
  have e7 : nI (rowV (gbit (z.1.2.2 j)) w) = nI (rowV (goodR r.1 j) w) := congrArg nI (rv _ _ (fun i hi => ((hc.1.2.1 j hj).good (by omega)).symm))
  have c00 : z.1.1 0 = nI w := hc.1.1.2.2.1
  rw [cl, c00]
  refine ⟨fun x => ⟨hin, mem _ ⟨fun _ => g0.symm, fun y => absurd (x.symm.trans y) (by decide), fun y => absurd (x.symm.trans y) (by decide), fun y => absurd (x.symm.trans y) (by decide), fun y => absurd (x.symm.trans y) (by decide), fun y => absurd (x.symm.trans y) (by decide), fun y => absurd (x.symm.trans y) (by decide), fun y => absurd (x.symm.trans y) (by decide), fun y => absurd (x.symm.trans y) (by decide), fun y => absurd (x.symm.trans y) (by decide), fun y => absurd (x.symm.trans y) (by decide), fun q0 q1 q2 q3 q4 q5 q6 q7 q8 q9 q10 => absurd x q0⟩⟩, fun x => ⟨hin, mem _ ⟨fun y => absurd (x.symm.trans y) (by decide), fun _ => g1.symm, fun y => absurd (x.symm.trans y) (by decide), fun y => absurd (x.symm.trans y) (by decide), fun y => absurd (x.symm.trans y) (by decide), fun y => absurd (x.symm.trans y) (by decide), fun y => absurd (x.symm.trans y) (by decide), fun y => absurd (x.symm.trans y) (by decide), fun y => absurd (x.symm.trans y) (by decide), fun y => absurd (x.symm.trans y) (by decide), fun y => absurd (x.symm.trans y) (by decide), fun q0 q1 q2 q3 q4 q5 q6 q7 q8 q9 q10 => absurd x q1⟩⟩, fun x => ⟨hin, mem _ ⟨fun y => absurd (x.symm.trans y) (by decide), fun y => absurd (x.symm.trans y) (by decide), fun _ => g3.symm, fun y => absurd (x.symm.trans y) (by decide), fun y => absurd (x.symm.trans y) (by decide), fun y => absurd (x.symm.trans y) (by decide), fun y => absurd (x.symm.trans y) (by decide), fun y => absurd (x.symm.trans y) (by decide), fun y => absurd (x.symm.trans y) (by decide), fun y => absurd (x.symm.trans y) (by decide), fun y => absurd (x.symm.trans y) (by decide), fun q0 q1 q2 q3 q4 q5 q6 q7 q8 q9 q10 => absurd x q2⟩⟩, fun x => ?_, fun x => ⟨hin, mem _ ⟨fun y => absurd (x.symm.trans y) (by decide), fun y => absurd (x.symm.trans y) (by decide), fun y => absurd (x.symm.trans y) (by decide), fun y => absurd (x.symm.trans y) (by decide), fun _ => rfl, fun y => absurd (x.symm.trans y) (by decide), fun y => absurd (x.symm.trans y) (by decide), fun y => absurd (x.symm.trans y) (by decide), fun y => absurd (x.symm.trans y) (by decide), fun y => absurd (x.symm.trans y) (by decide), fun y => absurd (x.symm.trans y) (by decide), fun q0 q1 q2 q3 q4 q5 q6 q7 q8 q9 q10 => absurd x q4⟩⟩, fun x => ⟨hin, mem _ ⟨fun y => absurd (x.symm.trans y) (by decide), fun y => absurd (x.symm.trans y) (by decide), fun y => absurd (x.symm.trans y) (by decide), fun y => absurd (x.symm.trans y) (by decide), fun y => absurd (x.symm.trans y) (by decide), fun _ => g5.symm, fun y => absurd (x.symm.trans y) (by decide), fun y => absurd (x.symm.trans y) (by decide), fun y => absurd (x.symm.trans y) (by decide), fun y => absurd (x.symm.trans y) (by decide), fun y => absurd (x.symm.trans y) (by decide), fun q0 q1 q2 q3 q4 q5 q6 q7 q8 q9 q10 => absurd x q5⟩⟩, fun x => ⟨hin, mem _ ⟨fun y => absurd (x.symm.trans y) (by decide), fun y => absurd (x.symm.trans y) (by decide), fun y => absurd (x.symm.trans y) (by decide), fun y => absurd (x.symm.trans y) (by decide), fun y => absurd (x.symm.trans y) (by decide), fun y => absurd (x.symm.trans y) (by decide), fun _ => e6, fun y => absurd (x.symm.trans y) (by decide), fun y => absurd (x.symm.trans y) (by decide), fun y => absurd (x.symm.trans y) (by decide), fun y => absurd (x.symm.trans y) (by decide), fun q0 q1 q2 q3 q4 q5 q6 q7 q8 q9 q10 => absurd x q6⟩⟩, fun x => ?_, fun x => ⟨hin, mem _ ⟨fun y => absurd (x.symm.trans y) (by decide), fun y => absurd (x.symm.trans y) (by decide), fun y => absurd (x.symm.trans y) (by decide), fun y => absurd (x.symm.trans y) (by decide), fun y => absurd (x.symm.trans y) (by decide), fun y => absurd (x.symm.trans y) (by decide), fun y => absurd (x.symm.trans y) (by decide), fun y => absurd (x.symm.trans y) (by decide), fun _ => g9.symm, fun y => absurd (x.symm.trans y) (by decide), fun y => absurd (x.symm.trans y) (by decide), fun q0 q1 q2 q3 q4 q5 q6 q7 q8 q9 q10 => absurd x q8⟩⟩, fun x => ⟨hin, mem _ ⟨fun y => absurd (x.symm.trans y) (by decide), fun y => absurd (x.symm.trans y) (by decide), fun y => absurd (x.symm.trans y) (by decide), fun y => absurd (x.symm.trans y) (by decide), fun y => absurd (x.symm.trans y) (by decide), fun y => absurd (x.symm.trans y) (by decide), fun y => absurd (x.symm.trans y) (by decide), fun y => absurd (x.symm.trans y) (by decide), fun y => absurd (x.symm.trans y) (by decide), fun _ => g10, fun y => absurd (x.symm.trans y) (by decide), fun q0 q1 q2 q3 q4 q5 q6 q7 q8 q9 q10 => absurd x q9⟩⟩, fun x => ⟨hin, mem _ ⟨fun y => absurd (x.symm.trans y) (by decide), fun y => absurd (x.symm.trans y) (by decide), fun y => absurd (x.symm.trans y) (by decide), fun y => absurd (x.symm.trans y) (by decide), fun y => absurd (x.symm.trans y) (by decide), fun y => absurd (x.symm.trans y) (by decide), fun y => absurd (x.symm.trans y) (by decide), fun y => absurd (x.symm.trans y) (by decide), fun y => absurd (x.symm.trans y) (by decide), fun y => absurd (x.symm.trans y) (by decide), fun _ => g11.symm, fun q0 q1 q2 q3 q4 q5 q6 q7 q8 q9 q10 => absurd x q10⟩⟩, fun x0 x1 x2 x3 x4 x5 x6 x7 x8 x9 x10 => mem _ ⟨fun y => absurd y x0, fun y => absurd y x1, fun y => absurd y x2, fun y => absurd y x3, fun y => absurd y x4, fun y => absurd y x5, fun y => absurd y x6, fun y => absurd y x7, fun y => absurd y x8, fun y => absurd y x9, fun y => absurd y x10, fun _ _ _ _ _ _ _ _ _ _ _ => rfl⟩⟩
  · unfold wp_Hmp_hasOneKept
    rw [cl]
    refine ⟨hin, fun y1 => ⟨fun _ => mem _ ⟨fun y => absurd (x.symm.trans y) (by decide), fun y => absurd (x.symm.trans y) (by decide), fun y => absurd (x.symm.trans y) (by decide), fun _ => (by rw [g4, if_neg (fun a => a.1 y1)]), fun y => absurd (x.symm.trans y) (by decide), fun y => absurd (x.symm.trans y) (by decide), fun y => absurd (x.symm.trans y) (by decide), fun y => absurd (x.symm.trans y) (by decide), fun y => absurd (x.symm.trans y) (by decide), fun y => absurd (x.symm.trans y) (by decide), fun y => absurd (x.symm.trans y) (by decide), fun q0 q1 q2 q3 q4 q5 q6 q7 q8 q9 q10 => absurd x q3⟩, fun y2 => absurd rfl y2⟩, fun y1 => ⟨hin, fun y2 => ⟨fun y3 => absurd y3 (by decide), fun _ => mem _ ⟨fun y => absurd (x.symm.trans y) (by decide), fun y => absurd (x.symm.trans y) (by decide), fun y => absurd (x.symm.trans y) (by decide), fun _ => (by rw [g4, if_pos ⟨y1, y2⟩]), fun y => absurd (x.symm.trans y) (by decide), fun y => absurd (x.symm.trans y) (by decide), fun y => absurd (x.symm.trans y) (by decide), fun y => absurd (x.symm.trans y) (by decide), fun y => absurd (x.symm.trans y) (by decide), fun y => absurd (x.symm.trans y) (by decide), fun y => absurd (x.symm.trans y) (by decide), fun q0 q1 q2 q3 q4 q5 q6 q7 q8 q9 q10 => absurd x q3⟩⟩, fun y2 => ⟨fun _ => mem _ ⟨fun y => absurd (x.symm.trans y) (by decide), fun y => absurd (x.symm.trans y) (by decide), fun y => absurd (x.symm.trans y) (by decide), fun _ => (by rw [g4, if_neg (fun a => y2 a.2)]), fun y => absurd (x.symm.trans y) (by decide), fun y => absurd (x.symm.trans y) (by decide), fun y => absurd (x.symm.trans y) (by decide), fun y => absurd (x.symm.trans y) (by decide), fun y => absurd (x.symm.trans y) (by decide), fun y => absurd (x.symm.trans y) (by decide), fun y => absurd (x.symm.trans y) (by decide), fun q0 q1 q2 q3 q4 q5 q6 q7 q8 q9 q10 => absurd x q3⟩, fun y3 => absurd rfl y3⟩⟩⟩
  · refine k_rowOf (j := j) (w := w) hj12 hw ?_
    refine mem _ ⟨fun y => absurd (x.symm.trans y) (by decide), fun y => absurd (x.symm.trans y) (by decide), fun y => absurd (x.symm.trans y) (by decide), fun y => absurd (x.symm.trans y) (by decide), fun y => absurd (x.symm.trans y) (by decide), fun y => absurd (x.symm.trans y) (by decide), fun y => absurd (x.symm.trans y) (by decide), fun _ => e7, fun y => absurd (x.symm.trans y) (by decide), fun y => absurd (x.symm.trans y) (by decide), fun y => absurd (x.symm.trans y) (by decide), fun q0 q1 q2 q3 q4 q5 q6 q7 q8 q9 q10 => absurd x q7⟩
