/-! The chain along a row. -/
theorem sub_add_r (a b x : Int32) : a - x + b = a + b - x := by
  rw [Int32.sub_eq_add_neg, Int32.sub_eq_add_neg, Int32.add_assoc, Int32.add_comm (-x), ← Int32.add_assoc]
theorem hand_ca {c : CS} {g : Nat → Int32} {N j k p : Nat} {B hh : Int32} {b : Nat → Int32} (h : CAg B b hh c g N) : CAg B b (hh + 1) (handC c j k (nI p)) (handF g j k (nI p)) N := by
  obtain ⟨a1, a2, a3, a4, a5, a6, a7⟩ := h
  refine ⟨?_, ?_, ?_, ?_, ?_, ?_, fun m hm => ?_⟩
  · rw [gl_handF (by omega), if_pos rfl, ← a1, ← sub_add_r, Int32.mul_comm 10]
    rfl
  · rw [gl_handF (by omega), if_neg (by omega), if_neg (by omega)]; exact a2
  · rw [gl_handF (by omega), if_neg (by omega), if_neg (by omega)]; exact a3
  · rw [gl_handF (by omega), if_neg (by omega), if_pos rfl, ← a4, Int32.mul_comm 10]
    rfl
  · rw [gl_handF (by omega), if_neg (by omega), if_neg (by omega), ← Int32.add_assoc, ← a5]
    rfl
  · rw [gl_handF (by omega), if_neg (by omega), if_neg (by omega)]; exact a6
  · rw [mb_handF (by omega)]
    have := a7 m hm
    by_cases e : m = j
    · rw [if_pos e, if_neg (by omega), if_neg (by omega), if_neg (by omega), if_neg (by omega)]; exact this
    · rw [if_neg e]; exact this
/-- what the reference does with whom the chain ends at -/
def hK (Post : Int32 → RS → Prop) (x6 x7 x8 : Int32) (u5 : RS) : Prop := ((x8 = (-9) → Post 0 u5) ∧ (¬ x8 = (-9) → (vp_in (pf_Mod_of x8 0) 4306 ∧ (vp_in (pf_Mod_of x8 0) 4306 ∧ (∀ u9 : RS, u9 = (rR u5 (upd u5.1 (pf_Mod_of x8 0).toNatClampNeg ((u5.1 (pf_Mod_of x8 0).toNatClampNeg) - x7))) → (∀ u10 : RS, u10 = (rR u9 (upd u9.1 (3 : Int32).toNatClampNeg ((u9.1 (3 : Int32).toNatClampNeg) - (10 * x7)))) → (∀ u11 : RS, u11 = (rR u10 (upd u10.1 (7 : Int32).toNatClampNeg ((u10.1 (7 : Int32).toNatClampNeg) + (10 * x7)))) → (vp_in (pf_Mod_of x8 11) 4306 ∧ (∀ u12 : RS, u12 = (rR u11 (upd u11.1 (pf_Mod_of x8 11).toNatClampNeg x6)) → (vp_in (pf_Mod_of x8 3) 4306 ∧ (∀ u13 : RS, u13 = (rR u12 (upd u12.1 (pf_Mod_of x8 3).toNatClampNeg (-9))) → (vp_in (pf_Mod_of x8 4) 4306 ∧ (∀ u14 : RS, u14 = (rR u13 (upd u13.1 (pf_Mod_of x8 4).toNatClampNeg 0)) → Post 1 u14)))))))))))))
theorem handOut_eq (u : RS) (p1 p2 : Int32) (Post : Int32 → RS → Prop) : wp_Mod_handOut u p1 p2 Post = (vp_in (pf_Mod_ofKind p1 0) 4306 ∧ (∀ x1 : Int32, x1 = (u.1 (pf_Mod_ofKind p1 0).toNatClampNeg) → (∃ k15 : Nat, wl_Mod_handOut_14 Post (hK Post) k15 p1 x1 p2 u))) := rfl
theorem hK_j {u : RS} {j k : Nat} {p : Int32} {Post : Int32 → RS → Prop} (hj : j < 12) (h : Post 1 (rR u (handF u.1 j k p))) : hK Post (nI k) p (nI j) u := by
  unfold hK
  simp only [ofc0 hj, ofc11 hj, ofc3 hj, ofc4 hj, c3, c7, forall_eq]
  exact ⟨fun z => (neg9_ne' z).elim, fun _ => ⟨ofi0 hj, ofi0 hj, ofi11 hj, ofi3 hj, ofi4 hj, h⟩⟩
theorem hand_chain {w N k p : Nat} {B : Int32} {b : Nat → Int32} (hk : k < 4) (hp200 : p ≤ 200) : ∀ (n t : Nat) (x : Int32) (c : CS) (g : Nat → Int32) (hh : Int32), CP c g w N → CAg B b hh c g N → (x = -9 ∨ ∃ q, q < N ∧ x = nI q ∧ kept c k q) → ms c k < n → ms c k + t ≤ 12 → ∃ (d : Int32) (c' : CS) (g' : Nat → Int32), (d = 0 ∨ d = 1) ∧ CP c' g' w N ∧ CAg B b (hh + d) c' g' N ∧ c'.1 1 = c.1 1 ∧ c'.1 6 = c.1 6 ∧ (∀ o, 226 ≤ o → g' o = g o) ∧ ((∀ m, mb g' m 12 = mb g m 12) ∧ g' 8 = g 8) ∧ (∀ m, m < 12 → (kept c' k m ↔ kept c k m ∧ ¬ x = nI m)) ∧ (∀ Post : CS → Prop, Post c' → wl_Clb_handOutOne_16 Post (fun v => Post v) n (nI k) (nI p) x (nI t) c) ∧ ∀ (u : RS) (Post : Int32 → RS → Prop), u.1 = g → Post d (rR u g') → wl_Mod_handOut_14 Post (hK Post) n (nI k) (nI p) x u := by
  intro n
  induction n with
  | zero => intro t x c g hh _ _ _ h; omega
  | succ n ih =>
    intro t x c g hh h hA hx hm ht
    have hN := h.1.2.1
    rcases hx with hx | ⟨q, hq, hx, hkq⟩
    · subst hx
      refine ⟨0, c, g, Or.inl rfl, h, by rw [Int32.add_zero]; exact hA, rfl, rfl, fun _ _ => rfl, ⟨fun _ => rfl, rfl⟩, fun m hm => ⟨fun z => ⟨z, fun y => (neg9_ne' y.symm).elim⟩, fun z => z.1⟩, fun Post z => ?_, fun u Post e z => ?_⟩
      · unfold wl_Clb_handOutOne_16
        exact ⟨fun _ => z, fun _ => ⟨fun _ => z, fun y => absurd rfl y⟩⟩
      · unfold wl_Mod_handOut_14
        subst e
        exact ⟨fun _ => ⟨fun _ => z, fun y => absurd rfl y⟩, fun y => absurd rfl y⟩
    · subst hx
      have hpos := ms_pos (c := c) (k := k) (q := q) (by omega) hkq.1
      have ht12 : ¬ (12 : Int32) ≤ nI t := nI_ge (a := t) (b := 12) (by omega) (by omega)
      have hq9 : ¬ nI q = -9 := fun z => neg9_ne' z
      have hin : vp_in (nI q) 12 := vp_in_nI (by omega) (by omega)
      obtain ⟨es, es2⟩ := st_eq (h.2.2.1 q (by omega)) h.1.1
      have b0 := (h.2.1 q hq).1
      by_cases hpay : p ≤ st c q
      · refine ⟨1, handC c q k (nI p), handF g q k (nI p), Or.inr rfl, hand_cp h hq hk hkq hpay, hand_ca hA, rfl, rfl, fun o ho => out_handF (by omega) ho, ⟨fun m => ?_, by rw [gl_handF (by omega), if_neg (by omega), if_neg (by omega)]⟩, fun m hm => ?_, fun Post z => ?_, fun u Post e z => ?_⟩
        · rw [mb_handF (by omega)]
          by_cases e : m = q
          · rw [if_pos e, if_neg (by omega), if_neg (by omega), if_neg (by omega), if_neg (by omega)]
          · rw [if_neg e]
        · unfold kept
          show ((if m = q then (-9 : Int32) else c.2.1 9 m) = nI k ∧ c.2.1 10 m = 0) ↔ _
          by_cases e : m = q
          · rw [if_pos e]
            exact ⟨fun z => absurd z.1 (neg9_ne hk), fun z => absurd (by rw [e]) z.2⟩
          · rw [if_neg e]
            exact ⟨fun z => ⟨z, fun y => e ((nI_eq (by omega) (by omega)).mp y).symm⟩, fun z => z.1⟩
        · unfold wl_Clb_handOutOne_16 wp_Acc_payShop wp_Hmp_handOut
          simp only [nI_clamp (show q < 2 ^ 31 by omega), forall_eq]
          refine ⟨fun y => absurd y ht12, fun _ => ⟨fun y => absurd y hq9, fun _ => ⟨hin, fun y => ?_, fun _ => ⟨hin, hin, hin, hin, z⟩⟩⟩⟩
          rw [es] at y
          exact absurd (nI_le hpay (by omega)) (Int32.not_le.mpr y)
        · unfold wl_Mod_handOut_14
          subst e
          refine ⟨fun y => absurd y hq9, fun _ => ⟨ofi0 (by omega), fun _ => hK_j (by omega) z, fun y => ?_⟩⟩
          rw [ofc0 (by omega)] at y
          have b0' : u.1 (70 + 13 * q + 0) = c.2.1 0 q := b0
          rw [b0', es] at y
          exact absurd (nI_le hpay (by omega)) y
      · obtain ⟨x1, c1', g1, hx1, hcp1, hdf1, hcl1, hrf1⟩ := drop_sim h hq hk hkq.1
        have hms := ms_drop (by omega) hk hkq.1 hdf1.2.2.2.1
        have kp1 : ∀ m, m < 12 → (kept c1' k m ↔ (kept c k m ∧ m ≠ q) ∨ x1 = nI m) := by
          intro m hm12
          obtain ⟨e1, e2, e3, e4, e5, e6, e7, e8, e9⟩ := hdf1
          unfold kept
          rw [e4, upd_if]
          constructor
          · intro z
            by_cases e : m = q
            · rw [if_pos e] at z
              exact absurd z.1 (neg9_ne hk)
            · rw [if_neg e] at z
              rcases e9 m hm12 e z.2 with y | y
              · exact Or.inl ⟨⟨z.1, y⟩, e⟩
              · exact Or.inr y
          · rintro (⟨z, e⟩ | z)
            · rw [if_neg e]
              exact ⟨z.1, e8 m e z.2⟩
            · rcases hx1 with y | ⟨q', y1, y2, y3, y4, y5, y6⟩
              · exact (neg9_ne' (z.symm.trans y)).elim
              · have : m = q' := (nI_eq (by omega) (by omega)).mp (z.symm.trans y3)
                subst this
                rw [e4, upd_if] at y4
                exact ⟨y4, y5⟩
        obtain ⟨d, c', g', r1, r2, r3, r4, r4', r5, r6, r7, r8, r9⟩ := ih (t + 1) x1 c1' g1 hh hcp1 (hdf1.pf.ca hA) (by
          rcases hx1 with y | ⟨q', y1, y2, y3, y4, y5, y6⟩
          · exact Or.inl y
          · exact Or.inr ⟨q', y1, y3, y4, y5⟩) (by omega) (by omega)
        refine ⟨d, c', g', r1, r2, r3, r4.trans (by rw [hdf1.1]), r4'.trans (by rw [hdf1.1]), fun o ho => (r5 o ho).trans (hdf1.2.2.2.2.2.1 o ho), ⟨fun m => (r6.1 m).trans (hdf1.2.2.2.2.2.2.1 m 12 (by omega) (by omega) (by omega)), r6.2.trans (hdf1.2.2.2.2.1 8 (by omega))⟩, fun m hm12 => ?_, fun Post z => ?_, fun u Post e z => ?_⟩
        · rw [r7 m hm12, kp1 m hm12]
          constructor
          · rintro ⟨y1 | y1, y2⟩
            · exact ⟨y1.1, fun y => y1.2 ((nI_eq (by omega) (by omega)).mp y).symm⟩
            · exact absurd y1 y2
          · rintro ⟨y1, y2⟩
            refine ⟨Or.inl ⟨y1, fun e => y2 (by rw [e])⟩, fun y => ?_⟩
            rcases hx1 with y' | ⟨q', z1, z2, z3, z4, z5, z6⟩
            · exact neg9_ne' (y.symm.trans y')
            · have : m = q' := (nI_eq (by omega) (by omega)).mp (y.symm.trans z3)
              subst this
              exact z6 y1.2
        · unfold wl_Clb_handOutOne_16
          rw [nI_clamp (show q < 2 ^ 31 by omega)]
          refine ⟨fun y => absurd y ht12, fun _ => ⟨fun y => absurd y hq9, fun _ => ⟨hin, fun _ => hcl1 _ ?_, fun y => ?_⟩⟩⟩
          · intro x5 e5
            rw [e5, nI_1]
            exact r8 Post z
          · rw [es] at y
            exact absurd (nI_lt (Nat.lt_of_not_le hpay) (by omega)) y
        · unfold wl_Mod_handOut_14
          rw [ofc0 (by omega)]
          have b0' : u.1 (70 + 13 * q + 0) = c.2.1 0 q := by rw [e]; exact b0
          rw [b0', es]
          refine ⟨fun y => absurd y hq9, fun _ => ⟨ofi0 (by omega), fun y => ?_, fun _ => hrf1 u _ e ?_⟩⟩
          · exact absurd y (nI_ge (Nat.lt_of_not_le hpay) (by omega))
          · exact r9 _ Post rfl z
