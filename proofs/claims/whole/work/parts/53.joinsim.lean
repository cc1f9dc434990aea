/-! Joining and the kinds, as one change on both sides. -/
def nwJoin (u : RS) (P : Int32 → RS → Prop) : Prop := wp_Mod_isSettled u (fun x v => (x = 0 → ((v.1 (1 : Int32).toNatClampNeg = 12 → P (-3) v) ∧ (¬ v.1 (1 : Int32).toNatClampNeg = 12 → P 0 v))) ∧ (¬ x = 0 → P (-2) v))
def kJoin (Post : Int32 → RS → Prop) (x9 : Int32) (u8 : RS) : Prop := (vp_in (pf_Mod_of x9 3) 4306 ∧ (∀ u10 : RS, u10 = (rR u8 (upd u8.1 (pf_Mod_of x9 3).toNatClampNeg (-9))) → (vp_in (pf_Mod_of x9 6) 4306 ∧ (∀ u11 : RS, u11 = (rR u10 (upd u10.1 (pf_Mod_of x9 6).toNatClampNeg (u10.1 (0 : Int32).toNatClampNeg))) → (vp_in (pf_Mod_of x9 9) 4306 ∧ (∀ u12 : RS, u12 = (rR u11 (upd u11.1 (pf_Mod_of x9 9).toNatClampNeg (-9))) → (vp_in (pf_Mod_of x9 11) 4306 ∧ (∀ u13 : RS, u13 = (rR u12 (upd u12.1 (pf_Mod_of x9 11).toNatClampNeg (-9))) → (∀ u14 : RS, u14 = (rR u13 (upd u13.1 (1 : Int32).toNatClampNeg ((u13.1 (1 : Int32).toNatClampNeg) + 1))) → Post x9 u14)))))))))
def dwJoin (u3 : RS) (Post : Int32 → RS → Prop) : Prop := ∀ x4 : Int32, x4 = (u3.1 (1 : Int32).toNatClampNeg) → (∃ k15 : Nat, wl_Mod_join_37 Post (kJoin Post) k15 x4 0 u3)
theorem join_eq (u : RS) (Post : Int32 → RS → Prop) : wp_Mod_join u Post = wp_Mod_isSettled u (fun x2 u1 => ((x2 = 0 → (((u1.1 (1 : Int32).toNatClampNeg) = 12 → Post (-3) u1) ∧ (¬ (u1.1 (1 : Int32).toNatClampNeg) = 12 → (wp_Mod_record u1 (fun u3 => dwJoin u3 Post))))) ∧ (¬ x2 = 0 → Post (-2) u1))) := rfl
theorem join_of (u : RS) (Post : Int32 → RS → Prop) (h : nwJoin u (fun x v => (x = 0 → wp_Mod_record v (fun v' => dwJoin v' Post)) ∧ (¬ x = 0 → Post x v))) : wp_Mod_join u Post := by
  rw [join_eq]
  unfold nwJoin wp_Mod_isSettled at h
  unfold wp_Mod_isSettled
  refine ⟨fun q => ⟨fun z => absurd z (by decide), fun _ => ?_⟩, fun q => ⟨fun _ => ⟨fun z => ?_, fun z => ?_⟩, fun z => absurd rfl z⟩⟩
  · exact ((h.1 q).2 (by decide)).2 (by decide)
  · exact (((h.2 q).1 rfl).1 z).2 (by decide)
  · exact (((h.2 q).1 rfl).2 z).1 rfl
theorem l_join {u : RS} {j : Nat} {Post : Int32 → RS → Prop} {K : Int32 → RS → Prop} (hj : j < 12) (h : K (nI j) (rR u (clr u.1 j))) : ∀ n i, i ≤ 13 → 13 - i < n → wl_Mod_join_37 Post K n (nI j) (nI i) (rR u (fun o => if 70 + 13 * j ≤ o ∧ o < 70 + 13 * j + i then 0 else u.1 o)) := by
  intro n
  induction n with
  | zero => intro i h1 h2; omega
  | succ n ih =>
    intro i h1 h2
    unfold wl_Mod_join_37
    by_cases hi : i = 13
    · subst hi
      refine ⟨fun _ => ?_, fun z => absurd (Int32.le_refl _) z⟩
      have e : (fun o => if 70 + 13 * j ≤ o ∧ o < 70 + 13 * j + 13 then (0 : Int32) else u.1 o) = clr u.1 j := by
        funext o
        unfold clr
        by_cases z : 70 + 13 * j ≤ o ∧ o < 70 + 13 * j + 13
        · rw [if_pos z, if_pos (by omega)]
        · rw [if_neg z, if_neg (by omega)]
      rw [e]
      exact h
    · refine ⟨fun z => absurd z (nI_ge (a := i) (b := 13) (by omega) (by omega)), fun _ => ⟨of_in hj (by omega), ?_⟩⟩
      intro v ev x ex
      rw [ev, ex, nI_1, of_cl hj (by omega)]
      have e : upd (rR u (fun o => if 70 + 13 * j ≤ o ∧ o < 70 + 13 * j + i then (0 : Int32) else u.1 o)).1 (70 + 13 * j + i) 0 = fun o => if 70 + 13 * j ≤ o ∧ o < 70 + 13 * j + (i + 1) then (0 : Int32) else u.1 o := by
        funext o
        rw [upd_if]
        show (if o = 70 + 13 * j + i then (0 : Int32) else if 70 + 13 * j ≤ o ∧ o < 70 + 13 * j + i then 0 else u.1 o) = _
        by_cases z : o = 70 + 13 * j + i
        · rw [if_pos z, if_pos (by omega)]
        · rw [if_neg z]
          by_cases y : 70 + 13 * j ≤ o ∧ o < 70 + 13 * j + i
          · rw [if_pos y, if_pos (by omega)]
          · rw [if_neg y, if_neg (by omega)]
      rw [e]
      exact ih (i + 1) (by omega) (by omega)
theorem t_join {u : RS} {j : Nat} {Post : Int32 → RS → Prop} (hj : j < 12) (h1 : u.1 1 = nI j) (h : Post (nI j) (rR u (joinF u.1 j))) : dwJoin u Post := by
  unfold dwJoin
  intro x ex
  rw [ex, c1, h1]
  have := l_join (u := u) (Post := Post) (K := kJoin Post) hj ?_ 14 0 (by omega) (by omega)
  · have e : (fun o => if 70 + 13 * j ≤ o ∧ o < 70 + 13 * j + 0 then (0 : Int32) else u.1 o) = u.1 := by
      funext o
      rw [if_neg (by omega)]
    rw [e] at this
    exact ⟨14, this⟩
  · unfold kJoin
    simp only [ofc3 hj, ofc6 hj, ofc9 hj, ofc11 hj, c0, c1, forall_eq]
    exact ⟨ofi3 hj, ofi6 hj, ofi9 hj, ofi11 hj, h⟩
theorem sim_join (c : CS) : OpSim (fun P => wp_Clb_addMember c P) nwJoin dwJoin c := by
  intro f f2 w N h h2
  have hN := h.1.1.2.1
  have hc4 : c.1 4 = nI N := h.1.1.2.2.2.2.1
  have hf1 : f 1 = nI N := h.1.1.2.2.2.2.2.1
  have hst : f 2 = c.1 1 := h.1.1.2.2.2.2.2.2.2
  by_cases hu : c.1 1 = 0
  · have hn1 : ¬ f 2 = 1 := by rw [hst, hu]; decide
    by_cases hlt : N < 12
    · refine Or.inr ⟨nI N, joinC c N, joinF f2 N, w, N + 1, nI_nn (by omega), join_rel h2 hlt hu, fun i hi => out_joinF hlt hi, fun Post q => ?_, fun u Post e q => ?_, fun u Post e q => t_join hlt (by rw [e]; exact h2.1.1.2.2.2.2.2.1) (by rw [e]; exact q)⟩
      · show wp_Clb_addMember c Post
        unfold wp_Clb_addMember
        simp only [forall_eq, hc4, nI_clamp (show N < 2 ^ 31 by omega)]
        refine ⟨fun _ => ⟨fun _ => ⟨vp_in_nI (by omega) (by omega), ?_⟩, fun z => absurd (nI_lt (b := 12) hlt (by omega)) z⟩, fun z => absurd hu z⟩
        have e4 : (cA c 3 (upd (c.2.1 3) N (c.1 0))).1 4 = nI N := hc4
        unfold joinC at q
        rw [e4] at q ⊢
        exact q
      · refine s_isSettled (fun z => absurd (by rw [← e]; exact z) hn1) (fun _ => ⟨fun _ => ⟨fun z => ?_, fun _ => q⟩, fun z => absurd rfl z⟩)
        rw [c1, e, hf1] at z
        have := (nI_eq (b := 12) (by omega) (by omega)).mp z
        omega
    · have eN : N = 12 := by omega
      subst eN
      refine Or.inl ⟨-3, by decide, fun Post q => ?_, fun u Post e q => ?_⟩
      · show wp_Clb_addMember c Post
        unfold wp_Clb_addMember
        rw [hc4]
        exact ⟨fun _ => ⟨fun z => absurd z (by decide), fun _ => q⟩, fun z => absurd hu z⟩
      · refine s_isSettled (fun z => absurd (by rw [← e]; exact z) hn1) (fun _ => ⟨fun _ => ⟨fun _ => q, fun z => absurd ?_ z⟩, fun z => absurd rfl z⟩)
        rw [c1, e, hf1]
        rfl
  · have hs : c.1 1 = 1 := h.1.1.2.2.2.2.2.2.1.resolve_left hu
    refine Or.inl ⟨-2, by decide, fun Post q => ?_, fun u Post e q => ?_⟩
    · show wp_Clb_addMember c Post
      unfold wp_Clb_addMember
      exact ⟨fun z => absurd z hu, fun _ => q⟩
    · exact s_isSettled (fun z => ⟨fun y => absurd y (by decide), fun _ => q⟩) (fun z => absurd (by rw [e, hst]; exact hs) z)
