/-! Putting a member to a kind, and giving up, on both sides. -/
theorem CP_gen {c c' : CS} {g g' : Nat → Int32} {w N : Nat} (h : CP c g w N) (e1 : c'.1 = c.1) (e2 : ∀ a, a ≠ 8 → a ≠ 9 → a ≠ 10 → c'.2.1 a = c.2.1 a) (e3 : c'.2.2 = c.2.2) (e5 : ∀ i, i < 10 → g' i = g i) (e7 : ∀ m v, v < 13 → v ≠ 3 → v ≠ 4 → mb g' m v = mb g m v) (h3 : ∀ m, m < N → mb g' m 3 = c'.2.1 9 m) (h4 : ∀ m, m < N → mb g' m 4 = (if ¬ c'.2.1 9 m = -9 ∧ c'.2.1 10 m = 0 then 1 else 0)) (hI' : ∀ m, m < 12 → (c'.2.1 9 m = -9 ∧ c'.2.1 10 m = 0) ∨ ∃ k, k < 4 ∧ c'.2.1 9 m = nI k) (hz : ∀ m, N ≤ m → m < 12 → c'.2.1 9 m = -9 ∧ c'.2.1 10 m = 0) (hq : ∀ q, q < 4 → CQ c' g' N q) : CP c' g' w N := by
  obtain ⟨hG, hM, hI, hO, hQ⟩ := h
  refine ⟨?_, fun m hm => ?_, fun m hm => ?_, fun m hm1 hm2 => ?_, hq⟩
  · obtain ⟨h1, h2, h3, h4, h5, h6, h7, h8⟩ := hG
    exact ⟨h1, h2, by rw [e1]; exact h3, by rw [e5 0 (by omega)]; exact h4, by rw [e1]; exact h5, by rw [e5 1 (by omega)]; exact h6, by rw [e1]; exact h7, by rw [e5 2 (by omega), e1]; exact h8⟩
  · obtain ⟨b1, b2, b3, b4, b5, b6, b7, b8, b9, b10⟩ := hM m hm
    refine ⟨?_, ?_, ?_, h3 m hm, h4 m hm, ?_, ?_, ?_, ?_, fun i hi => ?_⟩
    · rw [e7 m 0 (by omega) (by omega) (by omega), e2 0 (by omega) (by omega) (by omega)]; exact b1
    · rw [e7 m 1 (by omega) (by omega) (by omega), e2 1 (by omega) (by omega) (by omega)]; exact b2
    · rw [e7 m 2 (by omega) (by omega) (by omega), e2 2 (by omega) (by omega) (by omega)]; exact b3
    · rw [e7 m 5 (by omega) (by omega) (by omega), e2 5 (by omega) (by omega) (by omega)]; exact b6
    · rw [e7 m 6 (by omega) (by omega) (by omega), e2 3 (by omega) (by omega) (by omega)]; exact b7
    · rw [e7 m 9 (by omega) (by omega) (by omega), e2 6 (by omega) (by omega) (by omega)]; exact b8
    · rw [e7 m 11 (by omega) (by omega) (by omega), e2 11 (by omega) (by omega) (by omega)]; exact b9
    · rw [e7 m (7 + i / 31) (by omega) (by omega) (by omega), e3]; exact b10 i hi
  · obtain ⟨⟨s, b1, b1'⟩, b2, b3, b4, b5, b6⟩ := hI m hm
    refine ⟨⟨s, ?_, ?_⟩, ?_, ?_, ?_, hI' m hm, ?_⟩
    · rw [e2 0 (by omega) (by omega) (by omega)]; exact b1
    · rw [e3]; exact b1'
    · rw [e2 1 (by omega) (by omega) (by omega)]; exact b2
    · rw [e2 1 (by omega) (by omega) (by omega), e2 2 (by omega) (by omega) (by omega)]; exact b3
    · rw [e2 5 (by omega) (by omega) (by omega)]; exact b4
    · rw [e3]; exact b6
  · obtain ⟨o1, o2, o3, o4, o5, o6, o7, o8, o9, o10⟩ := hO m hm1 hm2
    refine ⟨?_, ?_, ?_, ?_, ?_, ?_, (hz m hm1 hm2).1, (hz m hm1 hm2).2, ?_, ?_⟩
    · rw [e2 0 (by omega) (by omega) (by omega)]; exact o1
    · rw [e2 1 (by omega) (by omega) (by omega)]; exact o2
    · rw [e2 2 (by omega) (by omega) (by omega)]; exact o3
    · rw [e2 4 (by omega) (by omega) (by omega)]; exact o4
    · rw [e2 5 (by omega) (by omega) (by omega)]; exact o5
    · rw [e2 6 (by omega) (by omega) (by omega)]; exact o6
    · rw [e2 11 (by omega) (by omega) (by omega)]; exact o9
    · rw [e3]; exact o10
/-- the row's members, by place -/
theorem row_f {c : CS} {g : Nat → Int32} {N k n : Nat} (hN : N ≤ 12) (hn : n ≤ 12) (d6 : ∀ i, i < n → ∃ m, m < N ∧ kd g k (3 + i) = nI m ∧ c.2.1 9 m = nI k ∧ c.2.1 10 m = nI (i + 1)) : ∃ f : Nat → Nat, (∀ i, i < n → f i < N ∧ kd g k (3 + i) = nI (f i) ∧ c.2.1 9 (f i) = nI k ∧ c.2.1 10 (f i) = nI (i + 1)) ∧ ∀ i j, i < n → j < n → f i = f j → i = j := by
  have hx : ∀ i, ∃ m, i < n → m < N ∧ kd g k (3 + i) = nI m ∧ c.2.1 9 m = nI k ∧ c.2.1 10 m = nI (i + 1) := by
    intro i
    by_cases h : i < n
    · obtain ⟨m, hm⟩ := d6 i h
      exact ⟨m, fun _ => hm⟩
    · exact ⟨0, fun z => absurd z h⟩
  refine ⟨fun i => Classical.choose (hx i), fun i hi => Classical.choose_spec (hx i) hi, fun i j hi hj e => ?_⟩
  have a := (Classical.choose_spec (hx i) hi).2.2.2
  have b := (Classical.choose_spec (hx j) hj).2.2.2
  have e' : Classical.choose (hx i) = Classical.choose (hx j) := e
  rw [e'] at a
  have := (nI_eq (by omega) (by omega)).mp (a.symm.trans b)
  omega
theorem le0_pos {i : Nat} (hi : i < 100) : ¬ nI (i + 1) ≤ 0 := fun z => absurd ((nle_s (lf := 0) (by omega) (by omega)).mp z) (by omega)
theorem row_count {c : CS} {g : Nat → Int32} {N k n : Nat} (hN : N ≤ 12) (hn : n ≤ 12) (d6 : ∀ i, i < n → ∃ m, m < N ∧ kd g k (3 + i) = nI m ∧ c.2.1 9 m = nI k ∧ c.2.1 10 m = nI (i + 1)) (d7 : ∀ m, m < 12 → c.2.1 9 m = nI k → c.2.1 10 m = 0 ∨ ∃ i, i < n ∧ c.2.1 10 m = nI (i + 1) ∧ kd g k (3 + i) = nI m) : fb_ct (pw c k) 12 = n := by
  obtain ⟨f, f1, f2⟩ := row_f hN hn d6
  refine ct_bij n 12 _ f (fun i hi => ?_) f2 (fun m hm hp => ?_)
  · obtain ⟨a1, a2, a3, a4⟩ := f1 i hi
    refine ⟨by omega, ?_⟩
    unfold pw
    exact decide_eq_true ⟨a3, by rw [a4]; exact le0_pos (by omega)⟩
  · unfold pw at hp
    obtain ⟨p1, p2⟩ := of_decide_eq_true hp
    rcases d7 m hm p1 with z | ⟨i, z1, z2, z3⟩
    · exact absurd (by rw [z]; decide) p2
    · refine ⟨i, z1, ?_⟩
      obtain ⟨a1, a2, a3, a4⟩ := f1 i z1
      exact (nI_eq (by omega) (by omega)).mp (a2.symm.trans z3)
theorem row_room {c : CS} {g : Nat → Int32} {N k n j : Nat} (hN : N ≤ 12) (hn : n ≤ 12) (hj : j < 12) (hc : ¬ c.2.1 9 j = nI k) (d6 : ∀ i, i < n → ∃ m, m < N ∧ kd g k (3 + i) = nI m ∧ c.2.1 9 m = nI k ∧ c.2.1 10 m = nI (i + 1)) : n + 1 ≤ 12 := by
  obtain ⟨f, f1, f2⟩ := row_f hN hn d6
  refine fb_holes 12 (n + 1) (fun i => if i < n then f i else j) (fun i hi => ?_) (fun a b hab hb => ?_)
  · by_cases z : i < n
    · rw [if_pos z]
      have := (f1 i z).1
      omega
    · rw [if_neg z]
      exact hj
  · rw [if_pos (show a < n by omega)]
    by_cases z : b < n
    · rw [if_pos z]
      intro e
      have := f2 a b (by omega) z e
      omega
    · rw [if_neg z]
      intro e
      have := (f1 a (by omega)).2.2.1
      rw [e] at this
      exact hc this
/-- the reference's putting -/
def wput (u : RS) (p1 p2 : Int32) (Post : Int32 → RS → Prop) : Prop := vp_in (pf_Mod_of p1 3) 4306 ∧ (∀ u1 : RS, u1 = (rR u (upd u.1 (pf_Mod_of p1 3).toNatClampNeg p2)) → (vp_in (pf_Mod_ofKind p2 1) 4306 ∧ (((u1.1 (pf_Mod_ofKind p2 1).toNatClampNeg) ≤ 0 → (vp_in (pf_Mod_ofKind p2 2) 4306 ∧ (vp_in (pf_Mod_ofKind p2 (3 + (u1.1 (pf_Mod_ofKind p2 2).toNatClampNeg))) 4306 ∧ (∀ u2 : RS, u2 = (rR u1 (upd u1.1 (pf_Mod_ofKind p2 (3 + (u1.1 (pf_Mod_ofKind p2 2).toNatClampNeg))).toNatClampNeg p1)) → (vp_in (pf_Mod_ofKind p2 2) 4306 ∧ (vp_in (pf_Mod_ofKind p2 2) 4306 ∧ (∀ u3 : RS, u3 = (rR u2 (upd u2.1 (pf_Mod_ofKind p2 2).toNatClampNeg ((u2.1 (pf_Mod_ofKind p2 2).toNatClampNeg) + 1))) → (vp_in (pf_Mod_ofKind p2 2) 4306 ∧ Post (u3.1 (pf_Mod_ofKind p2 2).toNatClampNeg) u3)))))))) ∧ (¬ (u1.1 (pf_Mod_ofKind p2 1).toNatClampNeg) ≤ 0 → (vp_in (pf_Mod_ofKind p2 1) 4306 ∧ (vp_in (pf_Mod_ofKind p2 1) 4306 ∧ (∀ u4 : RS, u4 = (rR u1 (upd u1.1 (pf_Mod_ofKind p2 1).toNatClampNeg ((u1.1 (pf_Mod_ofKind p2 1).toNatClampNeg) - 1))) → (vp_in (pf_Mod_of p1 4) 4306 ∧ (∀ u5 : RS, u5 = (rR u4 (upd u4.1 (pf_Mod_of p1 4).toNatClampNeg 1)) → Post 0 u5)))))))))
theorem doChoose_eq (u : RS) (p1 p2 : Int32) (Post : Int32 → RS → Prop) : wp_Mod_doChoose u p1 p2 Post = (vp_in (pf_Mod_of p1 3) 4306 ∧ (((u.1 (pf_Mod_of p1 3).toNatClampNeg) = (-9) → wput u p1 p2 Post) ∧ (¬ (u.1 (pf_Mod_of p1 3).toNatClampNeg) = (-9) → wp_Mod_drop u p1 (fun _ u6 => wput u6 p1 p2 Post)))) := rfl
def putF0 (g : Nat → Int32) (j k : Nat) : Nat → Int32 := setM (setK (setM g j 3 (nI k)) k 1 (kd g k 1 - 1)) j 4 1
def putFn (g : Nat → Int32) (j k n : Nat) : Nat → Int32 := setK (setK (setM g j 3 (nI k)) k (3 + n) (nI j)) k 2 (nI (n + 1))
theorem t_put {u : RS} {j k n : Nat} {Post : Int32 → RS → Prop} (hj : j < 12) (hk : k < 4) (hn : n < 12) (h2 : kd u.1 k 2 = nI n) (h : if kd u.1 k 1 ≤ 0 then Post (nI (n + 1)) (rR u (putFn u.1 j k n)) else Post 0 (rR u (putF0 u.1 j k))) : wput u (nI j) (nI k) Post := by
  unfold wput
  simp only [ofc3 hj, ofc4 hj, okc1 hk, okc2 hk, forall_eq]
  have e1 : (rR u (upd u.1 (70 + 13 * j + 3) (nI k))).1 (10 + 15 * k + 1) = kd u.1 k 1 := by
    show kd (setM u.1 j 3 (nI k)) k 1 = _
    rw [kd_setM hk (by omega)]
  have e2 : (rR u (upd u.1 (70 + 13 * j + 3) (nI k))).1 (10 + 15 * k + 2) = nI n := by
    show kd (setM u.1 j 3 (nI k)) k 2 = _
    rw [kd_setM hk (by omega)]
    exact h2
  rw [e1, e2, i3, ok_cl hk (show 3 + n < 15 by omega)]
  refine ⟨ofi3 hj, oki1 hk, fun q => ⟨oki2 hk, ok_in hk (by omega), oki2 hk, oki2 hk, oki2 hk, ?_⟩, fun q => ⟨oki1 hk, oki1 hk, ofi4 hj, ?_⟩⟩
  · rw [if_pos q] at h
    have e3 : (rR (rR u (upd u.1 (70 + 13 * j + 3) (nI k))) (upd (rR u (upd u.1 (70 + 13 * j + 3) (nI k))).1 (10 + 15 * k + (3 + n)) (nI j))).1 (10 + 15 * k + 2) = nI n := by
      show kd (setK (setM u.1 j 3 (nI k)) k (3 + n) (nI j)) k 2 = _
      rw [kd_setK (by omega) (by omega), if_neg (by omega), kd_setM hk (by omega)]
      exact h2
    rw [e3, nI_1]
    have e4 : putFn u.1 j k n (10 + 15 * k + 2) = nI (n + 1) := by
      show kd (setK (setK (setM u.1 j 3 (nI k)) k (3 + n) (nI j)) k 2 (nI (n + 1))) k 2 = _
      rw [kd_setK (by omega) (by omega), if_pos ⟨rfl, rfl⟩]
    rw [← e4] at h
    exact h
  · rw [if_neg q] at h
    exact h
theorem mb_putF0 {g : Nat → Int32} {j k m v : Nat} (hk : k < 4) (hv : v < 13) : mb (putF0 g j k) m v = if m = j ∧ v = 4 then 1 else if m = j ∧ v = 3 then nI k else mb g m v := by
  unfold putF0
  rw [mb_setM (by omega) hv, mb_setK (by omega) hk, mb_setM (by omega) hv]
theorem mb_putFn {g : Nat → Int32} {j k n m v : Nat} (hk : k < 4) (hn : n < 12) (hv : v < 13) : mb (putFn g j k n) m v = if m = j ∧ v = 3 then nI k else mb g m v := by
  unfold putFn
  rw [mb_setK (by omega) hk, mb_setK (by omega) hk, mb_setM (by omega) hv]
theorem kd_putF0 {g : Nat → Int32} {j k q v : Nat} (hq : q < 4) (hv : v < 15) : kd (putF0 g j k) q v = if q = k ∧ v = 1 then kd g k 1 - 1 else kd g q v := by
  unfold putF0
  rw [kd_setM hq hv, kd_setK (by omega) hv, kd_setM hq hv]
theorem kd_putFn {g : Nat → Int32} {j k n q v : Nat} (hn : n < 12) (hq : q < 4) (hv : v < 15) : kd (putFn g j k n) q v = if q = k ∧ v = 2 then nI (n + 1) else if q = k ∧ v = 3 + n then nI j else kd g q v := by
  unfold putFn
  rw [kd_setK (by omega) hv, kd_setK (by omega) hv, kd_setM hq hv]
theorem gl_putF0 {g : Nat → Int32} {j k i : Nat} (hi : i < 10) : putF0 g j k i = g i := by
  unfold putF0
  rw [gl_setM hi, gl_setK hi, gl_setM hi]
theorem gl_putFn {g : Nat → Int32} {j k n i : Nat} (hi : i < 10) : putFn g j k n i = g i := by
  unfold putFn
  rw [gl_setK hi, gl_setK hi, gl_setM hi]
theorem out_putF0 {g : Nat → Int32} {j k i : Nat} (hj : j < 12) (hk : k < 4) (hi : 226 ≤ i) : putF0 g j k i = g i := by
  unfold putF0
  rw [out_setM hj (by omega) hi, out_setK hk (by omega) hi, out_setM hj (by omega) hi]
theorem out_putFn {g : Nat → Int32} {j k n i : Nat} (hj : j < 12) (hk : k < 4) (hn : n < 12) (hi : 226 ≤ i) : putFn g j k n i = g i := by
  unfold putFn
  rw [out_setK hk (by omega) hi, out_setK hk (by omega) hi, out_setM hj (by omega) hi]
def putC0 (c : CS) (j k : Nat) : CS := cA (cA (cA c 8 (upd (c.2.1 8) k (c.2.1 8 k - 1))) 9 (upd (c.2.1 9) j (nI k))) 10 (upd (c.2.1 10) j 0)
def putCn (c : CS) (j k n : Nat) : CS := cA (cA c 9 (upd (c.2.1 9) j (nI k))) 10 (upd (c.2.1 10) j (nI (n + 1)))
theorem k_put {c : CS} {j k n : Nat} {Post : Int32 → CS → Prop} (hj : j < 12) (hk : k < 4) (hn : fb_ct (pw c k) 12 = n) (h : if c.2.1 8 k ≤ 0 then Post (nI (n + 1)) (putCn c j k n) else Post 0 (putC0 c j k)) : wp_Hmp_put c (nI j) (nI k) Post := by
  have hin : vp_in (nI j) 12 := vp_in_nI hj (by omega)
  have hik : vp_in (nI k) 4 := vp_in_nI hk (by omega)
  unfold wp_Hmp_put
  simp only [nI_clamp (show j < 2 ^ 31 by omega), nI_clamp (show k < 2 ^ 31 by omega), forall_eq]
  refine ⟨hik, fun q => k_rowLength ?_, fun q => ⟨hik, hik, hin, hin, ?_⟩⟩
  · rw [if_pos q] at h
    rw [hn, nI_1]
    exact ⟨hin, hin, h⟩
  · rw [if_neg q] at h
    exact h
/-- what a putting leaves as it was -/
def PF (c c' : CS) (g g' : Nat → Int32) : Prop := c'.1 = c.1 ∧ (∀ i, i < 10 → g' i = g i) ∧ (∀ i, 226 ≤ i → g' i = g i) ∧ c'.2.1 4 = c.2.1 4 ∧ ∀ m, mb g' m 10 = mb g m 10
theorem PF.ca {c c' : CS} {g g' : Nat → Int32} {N : Nat} {B : Int32} {b : Nat → Int32} {hh : Int32} (hp : PF c c' g g') (h : CAg B b hh c g N) : CAg B b hh c' g' N := by
  obtain ⟨e1, e2, -, e4, e5⟩ := hp
  obtain ⟨a1, a2, a3, a4, a5, a6, a7⟩ := h
  unfold CAg
  rw [e1, e2 3 (by omega), e2 5 (by omega), e2 6 (by omega), e2 7 (by omega), e2 8 (by omega), e2 9 (by omega), e4]
  exact ⟨a1, a2, a3, a4, a5, a6, fun m hm => by rw [e5]; exact a7 m hm⟩
theorem PF.ca0 {c c' : CS} {g g' : Nat → Int32} {N : Nat} (hp : PF c c' g g') (h : CA c g N) : CA c' g' N := by
  refine ⟨hp.ca h.1, ?_⟩
  rw [hp.1, hp.2.1 4 (by omega)]
  exact h.2
theorem DF.pf {c c' : CS} {g g' : Nat → Int32} {j : Nat} {x : Int32} (h : DF c c' g g' j x) : PF c c' g g' := by
  obtain ⟨e1, e2, e3, e4, e5, e6, e7, e8, e9⟩ := h
  exact ⟨e1, e5, e6, e2 4 (by omega) (by omega) (by omega), fun m => e7 m 10 (by omega) (by omega) (by omega)⟩
theorem put_sim {c : CS} {g : Nat → Int32} {w N j k : Nat} (h : CP c g w N) (hj : j < N) (hk : k < 4) (hc : c.2.1 9 j = -9) : ∃ (x : Int32) (c' : CS) (g' : Nat → Int32), 0 ≤ x ∧ CP c' g' w N ∧ PF c c' g g' ∧ (∀ Post : Int32 → CS → Prop, Post x c' → wp_Hmp_put c (nI j) (nI k) Post) ∧ ∀ (u : RS) (Post : Int32 → RS → Prop), u.1 = g → Post x (rR u g') → wput u (nI j) (nI k) Post := by
  have hN : N ≤ 12 := h.1.2.1
  obtain ⟨d1, d2, d3, n, d4, d5, d6, d7⟩ := h.2.2.2.2 k hk
  have hne : ∀ q, q < 4 → ¬ c.2.1 9 j = nI q := fun q hq z => neg9_ne hq (hc.symm.trans z)
  have hcnt := row_count hN d4 d6 d7
  have hroom := row_room hN d4 (show j < 12 by omega) (hne k hk) d6
  have hj0 : c.2.1 10 j = 0 := by
    obtain ⟨-, -, -, -, b5, -⟩ := h.2.2.1 j (by omega)
    rcases b5 with z | ⟨q, z1, z2⟩
    · exact z.2
    · exact absurd z2 (hne q z1)
  have h4j : mb g j 4 = 0 := by rw [(h.2.1 j hj).2.2.2.2.1, if_neg (fun z => z.1 hc)]
  by_cases hs : c.2.1 8 k ≤ 0
  · refine ⟨nI (n + 1), putCn c j k n, putFn g j k n, nI_nn (by omega), ?_, ⟨rfl, fun i hi => gl_putFn hi, fun i hi => out_putFn (by omega) hk (by omega) hi, rfl, fun m => by rw [mb_putFn hk (by omega) (by omega), if_neg (by omega)]⟩, fun Post q => k_put (by omega) hk hcnt (by rw [if_pos hs]; exact q), fun u Post eu q => t_put (n := n) (by omega) hk (by omega) (by rw [eu]; exact d5) (by rw [eu, ← d3, if_pos hs]; exact q)⟩
    have c9 : ∀ m, (putCn c j k n).2.1 9 m = if m = j then nI k else c.2.1 9 m := fun m => rfl
    have c10 : ∀ m, (putCn c j k n).2.1 10 m = if m = j then nI (n + 1) else c.2.1 10 m := fun m => rfl
    refine CP_gen h rfl (fun a a1 a2 a3 => ?_) rfl (fun i hi => gl_putFn hi) (fun m v hv v3 v4 => by rw [mb_putFn hk (by omega) hv, if_neg (fun z => v3 z.2)]) (fun m hm => ?_) (fun m hm => ?_) (fun m hm => ?_) (fun m hm1 hm2 => ?_) (fun q hq => ?_)
    · show (if a = 10 then _ else (if a = 9 then _ else c.2.1 a)) = _
      rw [if_neg a3, if_neg a2]
    · rw [mb_putFn hk (by omega) (by omega), c9]
      by_cases e : m = j
      · rw [if_pos ⟨e, rfl⟩, if_pos e]
      · rw [if_neg (fun z => e z.1), if_neg e]
        exact (h.2.1 m hm).2.2.2.1
    · rw [mb_putFn hk (by omega) (by omega), if_neg (fun z => absurd z.2 (by omega)), c9, c10]
      by_cases e : m = j
      · rw [if_pos e, if_pos e, if_neg (fun z => absurd z.2 (ne0 (by omega))), e]
        exact h4j
      · rw [if_neg e, if_neg e]
        exact (h.2.1 m hm).2.2.2.2.1
    · rw [c9, c10]
      by_cases e : m = j
      · rw [if_pos e, if_pos e]
        exact Or.inr ⟨k, hk, rfl⟩
      · rw [if_neg e, if_neg e]
        exact (h.2.2.1 m hm).2.2.2.2.1
    · rw [c9, c10, if_neg (by omega), if_neg (by omega)]
      have := h.2.2.2.1 m hm1 hm2
      exact ⟨this.2.2.2.2.2.2.1, this.2.2.2.2.2.2.2.1⟩
    · obtain ⟨f1, f2, f3, n', f4, f5, f6, f7⟩ := h.2.2.2.2 q hq
      have k0 : kd (putFn g j k n) q 0 = kd g q 0 := by rw [kd_putFn (by omega) hq (by omega), if_neg (by omega), if_neg (by omega)]
      have k1 : kd (putFn g j k n) q 1 = kd g q 1 := by rw [kd_putFn (by omega) hq (by omega), if_neg (by omega), if_neg (by omega)]
      refine ⟨by rw [k0]; exact f1, f2, by rw [k1]; exact f3, ?_⟩
      by_cases e : q = k
      · subst e
        have kv : ∀ i, i < n → kd (putFn g j q n) q (3 + i) = kd g q (3 + i) := fun i hi => by rw [kd_putFn (by omega) hq (by omega), if_neg (by omega), if_neg (by omega)]
        have kn : kd (putFn g j q n) q (3 + n) = nI j := by rw [kd_putFn (by omega) hq (by omega), if_neg (by omega), if_pos ⟨rfl, rfl⟩]
        refine ⟨n + 1, by omega, by rw [kd_putFn (by omega) hq (by omega), if_pos ⟨rfl, rfl⟩], fun i hi => ?_, fun m hm h9 => ?_⟩
        · by_cases z : i < n
          · obtain ⟨m, m1, m2, m3, m4⟩ := d6 i z
            have hmj : m ≠ j := fun em => hne q hq (by rw [← em]; exact m3)
            exact ⟨m, m1, by rw [kv i z]; exact m2, by rw [c9, if_neg hmj]; exact m3, by rw [c10, if_neg hmj]; exact m4⟩
          · have : i = n := by omega
            subst this
            exact ⟨j, hj, kn, by rw [c9, if_pos rfl], by rw [c10, if_pos rfl]⟩
        · rw [c9] at h9
          rw [c10]
          by_cases hmj : m = j
          · rw [if_pos hmj]
            exact Or.inr ⟨n, by omega, rfl, by rw [kn, hmj]⟩
          · rw [if_neg hmj] at h9 ⊢
            rcases d7 m hm h9 with z | ⟨i, z1, z2, z3⟩
            · exact Or.inl z
            · exact Or.inr ⟨i, by omega, z2, by rw [kv i z1]; exact z3⟩
      · have kv : ∀ v, v < 15 → kd (putFn g j k n) q v = kd g q v := fun v hv => by rw [kd_putFn (by omega) hq hv, if_neg (fun z => e z.1), if_neg (fun z => e z.1)]
        refine ⟨n', f4, by rw [kv 2 (by omega)]; exact f5, fun i hi => ?_, fun m hm h9 => ?_⟩
        · obtain ⟨m, m1, m2, m3, m4⟩ := f6 i hi
          have hmj : m ≠ j := fun em => hne q hq (by rw [← em]; exact m3)
          exact ⟨m, m1, by rw [kv (3 + i) (by omega)]; exact m2, by rw [c9, if_neg hmj]; exact m3, by rw [c10, if_neg hmj]; exact m4⟩
        · rw [c9] at h9
          by_cases hmj : m = j
          · rw [if_pos hmj] at h9
            exact absurd ((nI_eq (by omega) (by omega)).mp h9).symm e
          · rw [if_neg hmj] at h9
            rw [c10, if_neg hmj]
            rcases f7 m hm h9 with z | ⟨i, z1, z2, z3⟩
            · exact Or.inl z
            · exact Or.inr ⟨i, z1, z2, by rw [kv (3 + i) (by omega)]; exact z3⟩
  · refine ⟨0, putC0 c j k, putF0 g j k, by decide, ?_, ⟨rfl, fun i hi => gl_putF0 hi, fun i hi => out_putF0 (by omega) hk hi, rfl, fun m => by rw [mb_putF0 hk (by omega), if_neg (by omega), if_neg (by omega)]⟩, fun Post q => k_put (by omega) hk hcnt (by rw [if_neg hs]; exact q), fun u Post eu q => t_put (n := n) (by omega) hk (by omega) (by rw [eu]; exact d5) (by rw [eu, ← d3, if_neg hs]; exact q)⟩
    have c9 : ∀ m, (putC0 c j k).2.1 9 m = if m = j then nI k else c.2.1 9 m := fun m => rfl
    have c10 : ∀ m, (putC0 c j k).2.1 10 m = if m = j then 0 else c.2.1 10 m := fun m => rfl
    have c8 : ∀ q, (putC0 c j k).2.1 8 q = if q = k then c.2.1 8 k - 1 else c.2.1 8 q := fun q => rfl
    refine CP_gen h rfl (fun a a1 a2 a3 => ?_) rfl (fun i hi => gl_putF0 hi) (fun m v hv v3 v4 => by rw [mb_putF0 hk hv, if_neg (fun z => v4 z.2), if_neg (fun z => v3 z.2)]) (fun m hm => ?_) (fun m hm => ?_) (fun m hm => ?_) (fun m hm1 hm2 => ?_) (fun q hq => ?_)
    · show (if a = 10 then _ else (if a = 9 then _ else (if a = 8 then _ else c.2.1 a))) = _
      rw [if_neg a3, if_neg a2, if_neg a1]
    · rw [mb_putF0 hk (by omega), if_neg (fun z => absurd z.2 (by omega)), c9]
      by_cases e : m = j
      · rw [if_pos ⟨e, rfl⟩, if_pos e]
      · rw [if_neg (fun z => e z.1), if_neg e]
        exact (h.2.1 m hm).2.2.2.1
    · rw [mb_putF0 hk (by omega), c9, c10]
      by_cases e : m = j
      · rw [if_pos ⟨e, rfl⟩, if_pos e, if_pos e, if_pos ⟨fun z => neg9_ne hk z.symm, rfl⟩]
      · rw [if_neg (fun z => e z.1), if_neg (fun z => e z.1), if_neg e, if_neg e]
        exact (h.2.1 m hm).2.2.2.2.1
    · rw [c9, c10]
      by_cases e : m = j
      · rw [if_pos e, if_pos e]
        exact Or.inr ⟨k, hk, rfl⟩
      · rw [if_neg e, if_neg e]
        exact (h.2.2.1 m hm).2.2.2.2.1
    · rw [c9, c10, if_neg (by omega), if_neg (by omega)]
      have := h.2.2.2.1 m hm1 hm2
      exact ⟨this.2.2.2.2.2.2.1, this.2.2.2.2.2.2.2.1⟩
    · obtain ⟨f1, f2, f3, n', f4, f5, f6, f7⟩ := h.2.2.2.2 q hq
      have kv : ∀ v, v < 15 → v ≠ 1 → kd (putF0 g j k) q v = kd g q v := fun v hv h1 => by rw [kd_putF0 hq hv, if_neg (fun z => h1 z.2)]
      refine ⟨by rw [kv 0 (by omega) (by omega)]; exact f1, f2, ?_, n', f4, by rw [kv 2 (by omega) (by omega)]; exact f5, fun i hi => ?_, fun m hm h9 => ?_⟩
      · rw [c8, kd_putF0 hq (by omega)]
        by_cases e : q = k
        · rw [if_pos e, if_pos ⟨e, rfl⟩, d3]
        · rw [if_neg e, if_neg (fun z => e z.1)]
          exact f3
      · obtain ⟨m, m1, m2, m3, m4⟩ := f6 i hi
        have hmj : m ≠ j := fun em => hne q hq (by rw [← em]; exact m3)
        exact ⟨m, m1, by rw [kv (3 + i) (by omega) (by omega)]; exact m2, by rw [c9, if_neg hmj]; exact m3, by rw [c10, if_neg hmj]; exact m4⟩
      · rw [c9] at h9
        rw [c10]
        by_cases hmj : m = j
        · rw [if_pos hmj]
          exact Or.inl rfl
        · rw [if_neg hmj] at h9 ⊢
          rcases f7 m hm h9 with z | ⟨i, z1, z2, z3⟩
          · exact Or.inl z
          · exact Or.inr ⟨i, z1, z2, by rw [kv (3 + i) (by omega) (by omega)]; exact z3⟩
