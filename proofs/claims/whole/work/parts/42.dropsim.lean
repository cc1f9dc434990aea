/-! drop on both sides. -/
theorem sub1 {x y : Int32} (h : x - 1 = y) : x = y + 1 := by
  rw [← h]
  exact (Int32.sub_add_cancel x 1).symm
theorem neg9_ne' {k : Nat} (h : nI k = -9) (hk : k < 12 := by omega) : False := by
  have := congrArg Int32.toInt h
  rw [nI_toInt (by omega), show (-9 : Int32).toInt = -9 from rfl] at this
  omega
theorem mb_offF {g : Nat → Int32} {j m v : Nat} (hv : v < 13) : mb (offF g j) m v = if m = j then (if v = 3 then -9 else if v = 4 then 0 else mb g m v) else mb g m v := by
  unfold offF
  rw [mb_setM (by omega) hv, mb_setM (by omega) hv]
  by_cases e : m = j
  · subst e
    by_cases e1 : v = 4
    · simp [e1]
    · by_cases e2 : v = 3
      · simp [e2]
      · simp [e1, e2]
  · simp [e]
theorem kd_offF {g : Nat → Int32} {j k v : Nat} (hk : k < 4) (hv : v < 15) : kd (offF g j) k v = kd g k v := by
  unfold offF
  rw [kd_setM hk hv, kd_setM hk hv]
theorem gl_offF {g : Nat → Int32} {j i : Nat} (hi : i < 10) : offF g j i = g i := by
  unfold offF
  rw [gl_setM hi, gl_setM hi]
theorem out_offF {g : Nat → Int32} {j i : Nat} (hj : j < 12) (hi : 226 ≤ i) : offF g j i = g i := by
  unfold offF
  rw [out_setM hj (by omega) hi, out_setM hj (by omega) hi]
theorem k_drop {c : CS} {j k lf : Nat} {nx : Int32} {Post : Int32 → CS → Prop} (hj : j < 12) (hk : k < 4) (hl : c.2.1 10 j = nI lf) (hlf : lf ≤ 12) (hnx : (lf = 0 → ∀ P : Int32 → CS → Prop, P nx c → wp_Hmp_memberInRow c (nI k) 0 P) ∧ (¬ lf = 0 → nx = -9)) (h : Post nx (if lf = 0 ∧ nx = -9 then cA (leftC c j k lf) 8 (upd (c.2.1 8) k (c.2.1 8 k + 1)) else leftC c j k lf)) : wp_Hmp_drop c (nI j) (nI k) Post := by
  have hin : vp_in (nI j) 12 := vp_in_nI hj (by omega)
  have hik : vp_in (nI k) 4 := vp_in_nI hk (by omega)
  unfold wp_Hmp_drop
  simp only [nI_clamp (show j < 2 ^ 31 by omega), forall_eq, hl]
  refine ⟨hin, fun q => ?_, fun q => ?_⟩
  · have hl0 : lf = 0 := by
      rcases Nat.eq_zero_or_pos lf with z | z
      · exact z
      · exact absurd q (nI_ne0 z (by omega))
    refine hnx.1 hl0 _ ?_
    refine ⟨hin, hin, 13, ?_⟩
    have e0 := dpl_0 (offC c j) k lf
    show wl_Hmp_drop_42 Post _ 13 (nI k) (nI lf) nx 0 (offC c j)
    rw [← e0]
    refine l_drop ?_ 13 0 (by omega) (by omega)
    refine ⟨fun _ => ⟨fun q2 => ?_, fun q2 => ?_⟩, fun q2 => absurd q q2⟩
    · rw [if_pos ⟨hl0, q2⟩] at h
      rw [nI_clamp (show k < 2 ^ 31 by omega)]
      exact ⟨hik, hik, h⟩
    · rw [if_neg (fun z => q2 z.2)] at h
      exact h
  · have hl0 : ¬ lf = 0 := fun z => q (by rw [z]; rfl)
    have enx := hnx.2 hl0
    rw [if_neg (fun z => hl0 z.1)] at h
    refine ⟨hin, hin, 13, ?_⟩
    have e0 := dpl_0 (offC c j) k lf
    show wl_Hmp_drop_42 Post _ 13 (nI k) (nI lf) (-9) 0 (offC c j)
    rw [← e0]
    refine l_drop ?_ 13 0 (by omega) (by omega)
    rw [enx] at h
    exact ⟨fun q2 => absurd q2 q, fun _ => h⟩
theorem ite_o {c' : Int32} {p : Prop} [Decidable p] {v : Nat} {a b : Int32} (h1 : v ≠ 3) (h2 : v ≠ 4) : (if p then (if v = 3 then a else if v = 4 then b else c') else c') = (c' : Int32) := by
  by_cases e : p
  · rw [if_pos e, if_neg h1, if_neg h2]
  · rw [if_neg e]
theorem kdk_ite {g : Nat → Int32} {q k v : Nat} {x y : Int32} {p2 : Prop} [Decidable p2] (h : ¬ v = 2) (h2 : ¬ p2) : (if q = k then (if v = 2 then x else if p2 then y else kd g k v) else kd g q v) = kd g q v := by
  by_cases e : q = k
  · rw [if_pos e, if_neg h, if_neg h2, e]
  · rw [if_neg e]
theorem DF_left {c : CS} {g g' : Nat → Int32} {N j k lf : Nat} {x : Int32} (hk : k < 4) (hj : j < 12) (h1 : ∀ i, i < 10 → g' i = g i) (h2 : ∀ i, 226 ≤ i → g' i = g i) (h3 : ∀ m v, v < 13 → v ≠ 3 → v ≠ 4 → mb g' m v = mb g m v) (h4 : ∀ m, m < 12 → m ≠ j → c.2.1 9 m = nI k → ¬ c.2.1 10 m ≤ nI lf → c.2.1 10 m - 1 = 0 → x = nI m) (hlf : lf ≤ 12) : DF c (leftC c j k lf) g g' j x := by
  refine ⟨rfl, fun a a1 a2 a3 => ?_, rfl, ?_, h1, h2, h3, fun m hm h0 => ?_, fun m hm12 hm h0 => ?_⟩
  · show (if a = 10 then _ else (if a = 10 then _ else (if a = 9 then _ else c.2.1 a))) = _
    rw [if_neg a3, if_neg a3, if_neg a2]
  · rfl
  · rw [left10_o hm (Or.inr (by rw [h0]; exact (nle_s (i := 0) (by omega) (by omega)).mpr (by omega)))]
    exact h0
  · by_cases z : c.2.1 9 m = nI k ∧ ¬ c.2.1 10 m ≤ nI lf
    · rw [left10_s hm hm12 z.1 z.2] at h0
      exact Or.inr (h4 m hm12 hm z.1 z.2 h0)
    · left
      rw [left10_o hm ?_] at h0
      · exact h0
      · by_cases y : c.2.1 9 m = nI k
        · exact Or.inr (Classical.not_not.mp (fun q => z ⟨y, q⟩))
        · exact Or.inl y
theorem drop_sim {c : CS} {g : Nat → Int32} {w N j k : Nat} (h : CP c g w N) (hj : j < N) (hk : k < 4) (hc : c.2.1 9 j = nI k) : ∃ (x : Int32) (c' : CS) (g' : Nat → Int32), (x = -9 ∨ ∃ q, q < N ∧ q ≠ j ∧ x = nI q ∧ c'.2.1 9 q = nI k ∧ c'.2.1 10 q = 0 ∧ ¬ c.2.1 10 q = 0) ∧ CP c' g' w N ∧ DF c c' g g' j x ∧ (∀ Post : Int32 → CS → Prop, Post x c' → wp_Hmp_drop c (nI j) (nI k) Post) ∧ ∀ (u : RS) (Post : Int32 → RS → Prop), u.1 = g → Post x (rR u g') → wp_Mod_drop u (nI j) Post := by
  have hN : N ≤ 12 := h.1.2.1
  obtain ⟨d1, d2, d3, n, d4, d5, d6, d7⟩ := h.2.2.2.2 k hk
  obtain ⟨b1, b2, b3, b4, b5, b6, b7, b8, b9, b10⟩ := h.2.1 j hj
  have hc9 : ¬ c.2.1 9 j = -9 := fun z => neg9_ne hk (z.symm.trans hc)
  have h3j : mb g j 3 = nI k := b4.trans hc
  have nil : ∀ m, m < 12 → c.2.1 9 m = -9 → c.2.1 10 m = 0 := fun m hm h9 => by
    obtain ⟨-, -, -, -, b5, -⟩ := h.2.2.1 m hm
    rcases b5 with z | ⟨q, z1, z2⟩
    · exact z.2
    · exact absurd (h9.symm.trans z2) (neg9_ne z1)
  rcases d7 j (by omega) hc with hp0 | ⟨p, hp, hpl, hpq⟩
  · -- one is kept for it
    have h4j : mb g j 4 = 1 := by rw [b5, if_pos ⟨hc9, hp0⟩]
    rcases Nat.eq_zero_or_pos n with hn0 | hn0
    · -- nobody waits
      subst hn0
      have no : ∀ m, m < 12 → c.2.1 9 m = nI k → c.2.1 10 m = 0 := fun m hm h9 => by
        rcases d7 m hm h9 with z | ⟨i, z, -⟩
        · exact z
        · omega
      have le0 : ∀ m, m < 12 → c.2.1 9 m = nI k → c.2.1 10 m ≤ nI 0 := fun m hm h9 => by rw [no m hm h9]; decide
      have pl : ∀ m, m < 12 → m ≠ j → (leftC c j k 0).2.1 10 m = c.2.1 10 m := fun m hm hmj => left10_o hmj (by
        by_cases z : c.2.1 9 m = nI k
        · exact Or.inr (le0 m hm z)
        · exact Or.inl z)
      have g9 : ∀ m, (cA (leftC c j k 0) 8 (upd (c.2.1 8) k (c.2.1 8 k + 1))).2.1 9 m = if m = j then -9 else c.2.1 9 m := fun m => rfl
      have hDF : DF c (cA (leftC c j k 0) 8 (upd (c.2.1 8) k (c.2.1 8 k + 1))) g (setK (offF g j) k 1 (kd g k 1 + 1)) j (-9) := by
        have hd := DF_left (c := c) (g := g) (g' := setK (offF g j) k 1 (kd g k 1 + 1)) (N := N) (j := j) (k := k) (lf := 0) (x := -9) hk (by omega) (fun i hi => by rw [gl_setK hi, gl_offF hi]) (fun i hi => by rw [out_setK hk (by omega) hi, out_offF (by omega) hi]) (fun m v hv h1 h2 => by rw [mb_setK (by omega) hk, mb_offF hv, ite_o h1 h2]) (fun m hm hmj h9 h10 => absurd (le0 m hm h9) h10) (by omega)
        obtain ⟨e1, e2, e3, e4, e5, e6, e7, e8, e9⟩ := hd
        refine ⟨e1, fun a a1 a2 a3 => ?_, e3, e4, e5, e6, e7, e8, e9⟩
        show (if a = 8 then _ else (leftC c j k 0).2.1 a) = _
        rw [if_neg a1]
        exact e2 a a1 a2 a3
      refine ⟨-9, cA (leftC c j k 0) 8 (upd (c.2.1 8) k (c.2.1 8 k + 1)), setK (offF g j) k 1 (kd g k 1 + 1), Or.inl rfl, ?_, hDF, fun Post q => ?_, fun u Post eu q => ?_⟩
      · refine CP_of h hj hk hc hDF (left10_j hk) (fun m => ?_) (fun m hm => ?_) (fun m hm h9 => ?_) (fun q hq => ?_)
        · rw [mb_setK (by omega) hk, mb_offF (by omega)]
          by_cases e : m = j
          · rw [if_pos e, if_pos e, if_pos rfl]
          · rw [if_neg e, if_neg e]
        · rw [mb_setK (by omega) hk, mb_offF (by omega)]
          by_cases e : m = j
          · subst e
            rw [if_pos rfl, if_neg (by omega), if_pos rfl, g9, if_pos rfl, if_neg (fun z => z.1 rfl)]
          · rw [if_neg e, (h.2.1 m hm).2.2.2.2.1, g9, if_neg e]
            show _ = if ¬ c.2.1 9 m = -9 ∧ (leftC c j k 0).2.1 10 m = 0 then 1 else 0
            rw [pl m (by omega) e]
        · show (leftC c j k 0).2.1 10 m = 0
          by_cases e : m = j
          · subst e; exact left10_j hk
          · rw [pl m hm e]; exact nil m hm h9
        · obtain ⟨f1, f2, f3, n', f4, f5, f6, f7⟩ := h.2.2.2.2 q hq
          have k0 : kd (setK (offF g j) k 1 (kd g k 1 + 1)) q 0 = kd g q 0 := by rw [kd_setK (by omega) (by omega), if_neg (by omega), kd_offF hq (by omega)]
          have kv : ∀ v, 2 ≤ v → v < 15 → kd (setK (offF g j) k 1 (kd g k 1 + 1)) q v = kd g q v := fun v h1 h2 => by rw [kd_setK (by omega) h2, if_neg (by omega), kd_offF hq h2]
          refine ⟨by rw [k0]; exact f1, f2, ?_, n', f4, by rw [kv 2 (by omega) (by omega)]; exact f5, fun i hi => ?_, fun m hm h9 => ?_⟩
          · rw [kd_setK (by omega) (by omega), kd_offF hq (by omega)]
            show upd (c.2.1 8) k (c.2.1 8 k + 1) q = _
            rw [upd_if]
            by_cases e : q = k
            · rw [if_pos e, if_pos ⟨e, rfl⟩, d3]
            · rw [if_neg e, if_neg (fun z => e z.1)]; exact f3
          · obtain ⟨m, m1, m2, m3, m4⟩ := f6 i hi
            have hmj : m ≠ j := by
              intro em
              subst em
              exact absurd (m4.symm.trans hp0) (ne0 (by omega))
            refine ⟨m, m1, by rw [kv (3 + i) (by omega) (by omega)]; exact m2, by rw [g9, if_neg hmj]; exact m3, ?_⟩
            show (leftC c j k 0).2.1 10 m = _
            rw [pl m (by omega) hmj]; exact m4
          · rw [g9] at h9
            by_cases hmj : m = j
            · rw [if_pos hmj] at h9
              exact absurd h9 (neg9_ne hq)
            · rw [if_neg hmj] at h9
              show (leftC c j k 0).2.1 10 m = 0 ∨ ∃ i, i < n' ∧ (leftC c j k 0).2.1 10 m = _ ∧ _
              rw [pl m hm hmj]
              rcases f7 m hm h9 with z | ⟨i, z1, z2, z3⟩
              · exact Or.inl z
              · exact Or.inr ⟨i, z1, z2, by rw [kv (3 + i) (by omega) (by omega)]; exact z3⟩
      · refine k_drop (lf := 0) (nx := -9) (by omega) hk hp0 (by omega) ⟨fun _ P hP => ?_, fun z => absurd rfl z⟩ (by rw [if_pos ⟨rfl, rfl⟩]; exact q)
        exact k_mir (a := 0) (fun m hm hw _ => absurd (le0 m hm hw.1) hw.2.1) (fun _ => hP)
      · exact t_drop_0 (by omega) hk (by rw [eu]; exact h3j) (by rw [eu]; exact h4j) (by rw [eu]; exact d5) (by rw [eu]; exact q)
    · -- the first one in the row is next
      obtain ⟨q0, q1, q2, q3, q4⟩ := d6 0 hn0
      have hq0j : q0 ≠ j := by
        intro e
        subst e
        exact absurd (q4.symm.trans hp0) (ne0 (by omega))
      have first : ∀ m, m < 12 → c.2.1 9 m = nI k → ¬ c.2.1 10 m ≤ nI 0 → c.2.1 10 m - 1 = 0 → m = q0 := by
        intro m hm h9 h10 h11
        rcases d7 m hm h9 with z | ⟨i, z1, z2, z3⟩
        · exact absurd (by rw [z]; decide) h10
        · have : i = 0 := by
            rw [z2, nI_m1] at h11
            exact (nI_eq (b := 0) (by omega) (by omega)).mp h11
          subst this
          exact ((nI_eq (by omega) (by omega)).mp (z3.symm.trans q2))
      have kdl : ∀ q v, q < 4 → v < 15 → kd (setM (leaveF (offF g j) k 0 n (n - 1)) q0 4 1) q v = if q = k then (if v = 2 then nI (n - 1) else if 3 + 0 ≤ v ∧ v < 3 + (n - 1) then kd g k (v + 1) else kd g k v) else kd g q v := by
        intro q v hq hv
        rw [kd_setM hq hv, kd_leaveF hk hv hq d4]
        by_cases e : q = k
        · rw [if_pos e, if_pos e]
          by_cases e1 : v = 2
          · rw [if_pos e1, if_pos e1]
          · rw [if_neg e1, if_neg e1]
            by_cases e2 : 3 + 0 ≤ v ∧ v < 3 + (n - 1)
            · rw [if_pos e2, if_pos e2, kd_offF hk (by omega)]
            · rw [if_neg e2, if_neg e2, kd_offF hk hv]
        · rw [if_neg e, if_neg e, kd_offF hq hv]
      have mbl : ∀ m v, v < 13 → mb (setM (leaveF (offF g j) k 0 n (n - 1)) q0 4 1) m v = if m = q0 ∧ v = 4 then 1 else if m = j then (if v = 3 then -9 else if v = 4 then 0 else mb g m v) else mb g m v := by
        intro m v hv
        rw [mb_setM (by omega) hv, mb_leaveF hk d4, mb_offF hv]
      have hDF : DF c (leftC c j k 0) g (setM (leaveF (offF g j) k 0 n (n - 1)) q0 4 1) j (nI q0) := by
        refine DF_left (N := N) hk (by omega) (fun i hi => by rw [gl_setM hi, gl_leaveF hi, gl_offF hi]) (fun i hi => by rw [out_setM (by omega) (by omega) hi, out_leaveF hk d4 hi, out_offF (by omega) hi]) (fun m v hv h1 h2 => ?_) (fun m hm hmj h9 h10 h11 => by rw [first m hm h9 h10 h11]) (by omega)
        rw [mbl m v hv, if_neg (fun z => h2 z.2)]
        by_cases e : m = j
        · rw [if_pos e, if_neg h1, if_neg h2]
        · rw [if_neg e]
      have q0pl : (leftC c j k 0).2.1 10 q0 = 0 := by
        rw [left10_s hq0j (by omega) q3 (by rw [q4]; exact fun z => absurd ((nle_s (by omega) (by omega)).mp z) (by omega)), q4]
        decide
      refine ⟨nI q0, leftC c j k 0, setM (leaveF (offF g j) k 0 n (n - 1)) q0 4 1, Or.inr ⟨q0, q1, hq0j, rfl, by rw [left9, if_neg hq0j]; exact q3, q0pl, by rw [q4]; exact ne0 (by omega)⟩, ?_, hDF, fun Post q => ?_, fun u Post eu q => ?_⟩
      · refine CP_of h hj hk hc hDF (left10_j hk) (fun m => ?_) (fun m hm => ?_) (fun m hm h9 => ?_) (CQ_left (p := 0) (lf := 0) h hj hk hc d4 hn0 (Or.inl ⟨rfl, rfl, hp0⟩) d5 d6 d7 rfl (fun q hq => by rw [kdl q 0 hq (by omega), kdk_ite (by omega) (by omega)]) (fun q hq => by rw [kdl q 1 hq (by omega), kdk_ite (by omega) (by omega)]) (fun q hq e v hv => by rw [kdl q v hq hv, if_neg e]) (fun v h1 h2 => by rw [kdl k v hk h2, if_pos rfl]))
        · rw [mbl m 3 (by omega), if_neg (by omega)]
          by_cases e : m = j
          · rw [if_pos e, if_pos e, if_pos rfl]
          · rw [if_neg e, if_neg e]
        · rw [mbl m 4 (by omega), left9]
          by_cases e : m = j
          · subst e
            rw [if_neg (fun z => hq0j z.1.symm), if_pos rfl, if_neg (by omega), if_pos rfl, if_pos rfl, if_neg (fun z => z.1 rfl)]
          · rw [if_neg e]
            by_cases e2 : m = q0
            · subst e2
              rw [if_pos ⟨rfl, rfl⟩, if_neg e, if_pos ⟨fun z => neg9_ne hk (z.symm.trans q3), q0pl⟩]
            · rw [if_neg (fun z => e2 z.1), if_neg e, (h.2.1 m hm).2.2.2.2.1]
              by_cases e3 : c.2.1 9 m = nI k ∧ ¬ c.2.1 10 m ≤ nI 0
              · rw [left10_s e (by omega) e3.1 e3.2, if_neg (fun z => e3.2 (by rw [z.2]; decide)), if_neg (fun z => e2 (first m (by omega) e3.1 e3.2 z.2))]
              · rw [left10_o e]
                by_cases y : c.2.1 9 m = nI k
                · exact Or.inr (Classical.not_not.mp (fun q => e3 ⟨y, q⟩))
                · exact Or.inl y
        · by_cases e : m = j
          · subst e; exact left10_j hk
          · rw [left10_o e (Or.inl (fun z => neg9_ne hk (h9.symm.trans z)))]; exact nil m hm h9
      · refine k_drop (lf := 0) (nx := nI q0) (by omega) hk hp0 (by omega) ⟨fun _ P hP => ?_, fun z => absurd rfl z⟩ ?_
        · refine k_mir (a := 0) (fun m hm hw _ => ?_) (fun z => absurd ?_ (z q0 (by omega)))
          · rw [first m hm hw.1 hw.2.1 hw.2.2]; exact hP
          · exact ⟨q3, by rw [q4]; exact fun z => absurd ((nle_s (lf := 0) (by omega) (by omega)).mp z) (by omega), by rw [q4]; decide⟩
        · rw [if_neg (fun z => neg9_ne' z.2 (by omega))]
          exact q
      · exact t_drop_k (n := n) (q := q0) (by omega) hk d4 hn0 (by omega) (by rw [eu]; exact h3j) (by rw [eu]; exact h4j) (by rw [eu]; exact d5) (by rw [eu]; exact q2) (by rw [eu]; exact q)
  · -- it waits, at place p
    have hpne : ¬ c.2.1 10 j = 0 := by rw [hpl]; exact ne0 (by omega)
    have h4j : ¬ mb g j 4 = 1 := by
      rw [b5, if_neg (fun z => hpne z.2)]
      decide
    have uniq : ∀ i, i < p → ¬ kd g k (3 + i) = nI j := by
      intro i hi hz
      obtain ⟨m, m1, m2, m3, m4⟩ := d6 i (by omega)
      have : m = j := (nI_eq (by omega) (by omega)).mp (m2.symm.trans hz)
      subst this
      have := (nI_eq (by omega) (by omega)).mp (m4.symm.trans hpl)
      omega
    have kdl : ∀ q v, q < 4 → v < 15 → kd (leaveF (offF g j) k p n (n - 1)) q v = if q = k then (if v = 2 then nI (n - 1) else if 3 + p ≤ v ∧ v < 3 + (n - 1) then kd g k (v + 1) else kd g k v) else kd g q v := by
      intro q v hq hv
      rw [kd_leaveF hk hv hq d4]
      by_cases e : q = k
      · rw [if_pos e, if_pos e]
        by_cases e1 : v = 2
        · rw [if_pos e1, if_pos e1]
        · rw [if_neg e1, if_neg e1]
          by_cases e2 : 3 + p ≤ v ∧ v < 3 + (n - 1)
          · rw [if_pos e2, if_pos e2, kd_offF hk (by omega)]
          · rw [if_neg e2, if_neg e2, kd_offF hk hv]
      · rw [if_neg e, if_neg e, kd_offF hq hv]
    have mbl : ∀ m v, v < 13 → mb (leaveF (offF g j) k p n (n - 1)) m v = if m = j then (if v = 3 then -9 else if v = 4 then 0 else mb g m v) else mb g m v := by
      intro m v hv
      rw [mb_leaveF hk d4, mb_offF hv]
    have no1 : ∀ m, m < 12 → m ≠ j → c.2.1 9 m = nI k → ¬ c.2.1 10 m ≤ nI (p + 1) → ¬ c.2.1 10 m - 1 = 0 := by
      intro m hm hmj h9 h10 h11
      rcases d7 m hm h9 with z | ⟨i, z1, z2, z3⟩
      · exact h10 (by rw [z]; exact (nle_s (i := 0) (by omega) (by omega)).mpr (by omega))
      · rw [z2, nI_m1] at h11
        have : i = 0 := (nI_eq (b := 0) (by omega) (by omega)).mp h11
        subst this
        exact h10 (by rw [z2]; exact (nle_s (by omega) (by omega)).mpr (by omega))
    have hDF : DF c (leftC c j k (p + 1)) g (leaveF (offF g j) k p n (n - 1)) j (-9) := by
      refine DF_left (N := N) hk (by omega) (fun i hi => by rw [gl_leaveF hi, gl_offF hi]) (fun i hi => by rw [out_leaveF hk d4 hi, out_offF (by omega) hi]) (fun m v hv h1 h2 => ?_) (fun m hm hmj h9 h10 h11 => absurd h11 (no1 m hm hmj h9 h10)) (by omega)
      rw [mbl m v hv]
      by_cases e : m = j
      · rw [if_pos e, if_neg h1, if_neg h2]
      · rw [if_neg e]
    refine ⟨-9, leftC c j k (p + 1), leaveF (offF g j) k p n (n - 1), Or.inl rfl, ?_, hDF, fun Post q => ?_, fun u Post eu q => ?_⟩
    · refine CP_of h hj hk hc hDF (left10_j hk) (fun m => ?_) (fun m hm => ?_) (fun m hm h9 => ?_) (CQ_left (p := p) (lf := p + 1) h hj hk hc d4 hp (Or.inr ⟨rfl, hpl⟩) d5 d6 d7 rfl (fun q hq => by rw [kdl q 0 hq (by omega), kdk_ite (by omega) (by omega)]) (fun q hq => by rw [kdl q 1 hq (by omega), kdk_ite (by omega) (by omega)]) (fun q hq e v hv => by rw [kdl q v hq hv, if_neg e]) (fun v h1 h2 => by rw [kdl k v hk h2, if_pos rfl]))
      · rw [mbl m 3 (by omega)]
        by_cases e : m = j
        · rw [if_pos e, if_pos e, if_pos rfl]
        · rw [if_neg e, if_neg e]
      · rw [mbl m 4 (by omega), left9]
        by_cases e : m = j
        · subst e
          rw [if_pos rfl, if_neg (by omega), if_pos rfl, if_pos rfl, if_neg (fun z => z.1 rfl)]
        · rw [if_neg e, if_neg e, (h.2.1 m hm).2.2.2.2.1]
          by_cases e3 : c.2.1 9 m = nI k ∧ ¬ c.2.1 10 m ≤ nI (p + 1)
          · rw [left10_s e (by omega) e3.1 e3.2, if_neg (fun z => e3.2 (by rw [z.2]; exact (nle_s (i := 0) (by omega) (by omega)).mpr (by omega))), if_neg (fun z => no1 m (by omega) e e3.1 e3.2 z.2)]
          · rw [left10_o e]
            by_cases y : c.2.1 9 m = nI k
            · exact Or.inr (Classical.not_not.mp (fun q => e3 ⟨y, q⟩))
            · exact Or.inl y
      · by_cases e : m = j
        · subst e; exact left10_j hk
        · rw [left10_o e (Or.inl (fun z => neg9_ne hk (h9.symm.trans z)))]; exact nil m hm h9
    · refine k_drop (lf := p + 1) (nx := -9) (by omega) hk hpl (by omega) ⟨fun z => absurd z (by omega), fun _ => rfl⟩ ?_
      rw [if_neg (fun z => absurd z.1 (by omega))]
      exact q
    · exact t_drop_w (n := n) (p := p) (by omega) hk d4 (by rw [eu]; exact h3j) (by rw [eu]; exact h4j) (by rw [eu]; exact d5) hp (by rw [eu]; exact hpq) (by rw [eu]; exact uniq) (by rw [eu]; exact q)
