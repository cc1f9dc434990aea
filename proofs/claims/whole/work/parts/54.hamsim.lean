/-! Setting a kind, as one change on both sides. -/
def nwHam (u : RS) (p1 p2 p3 : Int32) (P : Int32 → RS → Prop) : Prop := ((pf_Mod_isKind p1) = 0 → P (-1) u) ∧ (¬ (pf_Mod_isKind p1) = 0 → (((pf_Mod_in p2 1 200) = 0 → P (-1) u) ∧ (¬ (pf_Mod_in p2 1 200) = 0 → (((pf_Mod_in p3 0 9) = 0 → P (-1) u) ∧ (¬ (pf_Mod_in p3 0 9) = 0 → wp_Mod_isSettled u (fun x v => (x = 0 → P 0 v) ∧ (¬ x = 0 → P (-2) v)))))))
def dwHam (u3 : RS) (p1 p2 p3 : Int32) (P : Int32 → RS → Prop) : Prop := (vp_in (pf_Mod_ofKind p1 0) 4306 ∧ (∀ x4 : Int32, x4 = (u3.1 (pf_Mod_ofKind p1 0).toNatClampNeg) → (vp_in (pf_Mod_ofKind p1 0) 4306 ∧ (∀ u5 : RS, u5 = (rR u3 (upd u3.1 (pf_Mod_ofKind p1 0).toNatClampNeg p2)) → (vp_in (pf_Mod_ofKind p1 1) 4306 ∧ (∀ u6 : RS, u6 = (rR u5 (upd u5.1 (pf_Mod_ofKind p1 1).toNatClampNeg p3)) → P x4 u6))))))
theorem ham_of (u : RS) (p1 p2 p3 : Int32) (Post : Int32 → RS → Prop) (h : nwHam u p1 p2 p3 (fun x v => (x = 0 → wp_Mod_record v (fun v' => dwHam v' p1 p2 p3 Post)) ∧ (¬ x = 0 → Post x v))) : wp_Mod_setHamper u p1 p2 p3 Post := by
  unfold nwHam wp_Mod_isSettled at h
  unfold wp_Mod_setHamper wp_Mod_isSettled
  refine ⟨fun a => (h.1 a).2 (by decide), fun a => ⟨fun b => ((h.2 a).1 b).2 (by decide), fun b => ⟨fun d => (((h.2 a).2 b).1 d).2 (by decide), fun d => ⟨fun e => ⟨fun z => absurd z (by decide), fun _ => ?_⟩, fun e => ⟨fun _ => ?_, fun z => absurd rfl z⟩⟩⟩⟩⟩
  · exact (((((h.2 a).2 b).2 d).1 e).2 (by decide)).2 (by decide)
  · exact (((((h.2 a).2 b).2 d).2 e).1 rfl).1 rfl
theorem sim_setHamper (c : CS) (p1 p2 p3 : Int32) : OpSim (fun P => wp_Clb_changeKind c p1 p2 p3 P) (fun u P => nwHam u p1 p2 p3 P) (fun u P => dwHam u p1 p2 p3 P) c := by
  intro f f2 w N h h2
  have hst : f 2 = c.1 1 := h.1.1.2.2.2.2.2.2.2
  have i2 : pf_Mod_in p2 1 200 = 0 ↔ ¬ (1 ≤ p2.toInt ∧ p2.toInt ≤ 200) := in15
  have i3' : pf_Mod_in p3 0 9 = 0 ↔ ¬ (0 ≤ p3.toInt ∧ p3.toInt ≤ 9) := in15
  by_cases hA : isK p1 ∧ (1 ≤ p2.toInt ∧ p2.toInt ≤ 200) ∧ 0 ≤ p3.toInt ∧ p3.toInt ≤ 9
  · obtain ⟨hK, h2', h3'⟩ := hA
    obtain ⟨k, hk, rfl⟩ := isK_of hK
    have cls : ∀ Post : Int32 → CS → Prop, (c.1 1 = 0 → Post (c.2.1 7 k) (hamC c k p2 p3)) → (¬ c.1 1 = 0 → Post (-2) c) → wp_Clb_changeKind c (nI k) p2 p3 Post := by
      intro Post q1 q2
      unfold wp_Clb_changeKind
      simp only [Int32.lt_iff_toInt_lt, show (1 : Int32).toInt = 1 from rfl, show (200 : Int32).toInt = 200 from rfl, show (0 : Int32).toInt = 0 from rfl, show (9 : Int32).toInt = 9 from rfl]
      refine ⟨fun a => by omega, fun _ => ⟨fun b => by omega, fun _ => ⟨fun d => by omega, fun _ => ⟨fun e => by omega, fun _ => ⟨fun z => absurd z (hamK1 hk), fun _ => ⟨fun z => ?_, q2⟩⟩⟩⟩⟩⟩
      have hik : vp_in (nI k) 4 := vp_in_nI hk (by omega)
      simp only [nI_clamp (show k < 2 ^ 31 by omega), forall_eq]
      exact ⟨hik, hik, hik, q1 z⟩
    have nw1 : ∀ (u : RS) (P : Int32 → RS → Prop), (u.1 2 = 1 → P (-2) u) → (¬ u.1 2 = 1 → P 0 u) → nwHam u (nI k) p2 p3 P := by
      intro u P q1 q2
      unfold nwHam
      rw [isKind0, i2, i3']
      exact ⟨fun z => absurd hK z, fun _ => ⟨fun z => absurd h2' z, fun _ => ⟨fun z => absurd h3' z, fun _ => s_isSettled (fun z => ⟨fun y => absurd y (by decide), fun _ => q1 z⟩) (fun z => ⟨fun _ => q2 z, fun y => absurd rfl y⟩)⟩⟩⟩
    by_cases hu : c.1 1 = 0
    · have hn1 : ¬ f 2 = 1 := by rw [hst, hu]; decide
      obtain ⟨pp, pp2, epp⟩ := lit_of (n := 200) (by omega) (by omega) h2'.2
      have pp1 : 1 ≤ pp := by
        have := h2'.1
        rw [epp, nI_toInt (by omega)] at this
        omega
      obtain ⟨d1, ⟨p, d2, d3, d4⟩, -⟩ := h2.1.2.2.2.2 k hk
      refine Or.inr ⟨c.2.1 7 k, hamC c k p2 p3, hamF f2 k p2 p3, w, N, by rw [d4]; exact nI_nn (by omega), by rw [epp]; exact ham_rel h2 hk pp1 pp2 hu, fun i hi => ?_, fun Post q => cls Post (fun _ => q) (fun z => absurd hu z), fun u P e q => nw1 u P (fun z => absurd (by rw [← e]; exact z) hn1) (fun _ => q), fun u P e q => ?_⟩
      · unfold hamF
        rw [out_setK hk (by omega) hi, out_setK hk (by omega) hi]
      · show dwHam u (nI k) p2 p3 P
        unfold dwHam
        simp only [okc0 hk, okc1 hk, forall_eq]
        refine ⟨oki0 hk, oki0 hk, oki1 hk, ?_⟩
        have e0 : u.1 (10 + 15 * k + 0) = c.2.1 7 k := by rw [e]; exact d1.symm
        rw [e0]
        rw [← e] at q
        exact q
    · have hs : c.1 1 = 1 := h.1.1.2.2.2.2.2.2.1.resolve_left hu
      exact Or.inl ⟨-2, by decide, fun Post q => cls Post (fun z => absurd z hu) (fun _ => q), fun u P e q => nw1 u P (fun _ => q) (fun z => absurd (by rw [e, hst]; exact hs) z)⟩
  · refine Or.inl ⟨-1, by decide, fun Post q => ?_, fun u P e q => ?_⟩
    · show wp_Clb_changeKind c p1 p2 p3 Post
      unfold wp_Clb_changeKind
      simp only [Int32.lt_iff_toInt_lt, show (1 : Int32).toInt = 1 from rfl, show (200 : Int32).toInt = 200 from rfl, show (0 : Int32).toInt = 0 from rfl, show (9 : Int32).toInt = 9 from rfl]
      refine ⟨fun _ => ⟨fun _ => ⟨fun _ => q, fun _ => q⟩, fun _ => ⟨fun _ => ⟨fun _ => q, fun _ => q⟩, fun _ => ⟨fun _ => q, fun _ => q⟩⟩⟩, fun a => ⟨fun _ => ⟨fun _ => ⟨fun _ => q, fun _ => q⟩, fun _ => ⟨fun _ => ⟨fun _ => q, fun _ => q⟩, fun _ => ⟨fun _ => q, fun _ => q⟩⟩⟩, fun b => ⟨fun _ => ⟨fun _ => q, fun _ => q⟩, fun d => ⟨fun _ => ⟨fun _ => q, fun _ => q⟩, fun e => ⟨fun _ => q, fun z => absurd ⟨?_, ⟨by omega, by omega⟩, by omega, by omega⟩ hA⟩⟩⟩⟩⟩
      exact Classical.not_not.mp (fun y => z (hamK.mpr y))
    · show nwHam u p1 p2 p3 P
      unfold nwHam
      rw [isKind0, i2, i3']
      exact ⟨fun _ => q, fun a => ⟨fun _ => q, fun b => ⟨fun _ => q, fun d => absurd ⟨Classical.not_not.mp a, Classical.not_not.mp b, Classical.not_not.mp d⟩ hA⟩⟩⟩
