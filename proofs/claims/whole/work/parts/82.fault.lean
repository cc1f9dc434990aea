/-! The first fault, on both sides. -/
def KfF (Post : Int32 → RS → Prop) : Int32 → RS → Prop := fun x12 u11 => ((x12 = 0 → Post (u11.2.2.2 2) u11) ∧ (¬ x12 = 0 → Post (-1) u11))
theorem lt_nI {a b : Nat} (hb : b < 2 ^ 31) (h : a < b) : nI a < nI b := Int32.not_le.mp (nI_ge h hb)
theorem cd_in {t : Nat → Int32} {l i : Nat} (h : i < l) : cd t l i = t i := if_pos h
theorem fl_sim (t : Nat → Int32) (l : Nat) (hl : l ≤ 100) : ∀ n i k, i ≤ l → 2 * k ≤ i → l - i < n → ∃ x : Int32, (x = -1 ∨ ∃ v, v ≤ 100 ∧ x = nI v) ∧
    (∀ (o : OS) (Post : Int32 → OS → Prop) (K : OS → Prop), OT t l i o → (∀ o', o'.1 0 = nI l → o'.2 = o.2 → Post x o') → wl_Ord_fault_7 Post K n (nI k) o) ∧
    (∀ (r : RS) (Post : Int32 → RS → Prop) (P : Int32 → RS → Prop), RT t l i r → (∀ r', r'.2.2.2 1 = nI l → RQ r r' → Post x r') → (∀ e u2, wl_Mod_faultOf_10 Post (KfF Post) (n + 1) e u2 → (e = 0 ∨ e = 1) → P e u2) → wp_Mod_readsOrder r P) := by
  intro n
  induction n with
  | zero => intro i k h1 h2 h3; omega
  | succ n ih =>
    intro i k h1 h2 h3
    have nk : ¬ (100 : Int32) ≤ nI k := nI_ge (a := k) (b := 100) (by omega) (by omega)
    obtain ⟨e, i', L, a, q, s1, s2, s3, s4, s5⟩ := ro_sim t l hl i h1
    rcases s3 with s3 | ⟨s3, s6, s7⟩
    · -- the order doesn't read
      refine ⟨nI i', Or.inr ⟨i', by omega, rfl⟩, fun o Post K hO h => ?_, fun r Post P hR h hp => ?_⟩
      · unfold wl_Ord_fault_7
        refine ⟨fun y => absurd y nk, fun _ => s4 _ _ hO (fun o' b1 b2 _ => ⟨fun _ => ?_, fun y => absurd s3 y⟩)⟩
        rw [b1.2.1]
        exact h _ b1.1 b2
      · refine s5 _ _ hR (fun r' b1 b2 _ => hp _ _ ?_ (Or.inl s3))
        unfold wl_Mod_faultOf_10
        refine ⟨fun y => ?_, fun y => absurd s3 y⟩
        unfold KfF
        refine ⟨fun _ => ?_, fun y2 => absurd y y2⟩
        rw [b1.2.1]
        exact h _ b1.1 b2
    · have e0 : ¬ e = 0 := by rw [s3]; decide
      by_cases hi' : i' < l
      · by_cases h59 : t i' = 59
        · obtain ⟨x, c1, c2, c3⟩ := ih (i' + 1) (k + 1) (by omega) (by omega) (by omega)
          refine ⟨x, c1, fun o Post K hO h => ?_, fun r Post P hR h hp => ?_⟩
          · unfold wl_Ord_fault_7
            refine ⟨fun y => absurd y nk, fun _ => s4 _ _ hO (fun o' b1 b2 _ => ⟨fun y => absurd y e0, fun _ => ?_⟩)⟩
            rw [b1.1, b1.2.1, nI_clamp (by omega), b1.2.2 i' hi']
            refine ⟨fun _ => ⟨vp_in_nI (by omega) (by omega), fun _ => ?_, fun y => absurd h59 y⟩, fun y => absurd (lt_nI (by omega) hi') y⟩
            intro u5 e5 x6 e6
            rw [e5, e6, nI_1, nI_1]
            have st := b1.step
            rw [b1.2.1, nI_1] at st
            exact c2 _ Post K st (fun o'' d1 d2 => h o'' d1 (d2.trans b2))
          · refine s5 _ _ hR (fun r' b1 b2 _ => hp _ _ ?_ (Or.inr s3))
            unfold wl_Mod_faultOf_10
            refine ⟨fun y => absurd y e0, fun _ => ⟨fun y => absurd y ?_, fun _ => ?_⟩⟩
            · rw [b1.1, b1.2.1]
              exact nI_ge hi' (by omega)
            · refine t_code hl (by omega) b1 ⟨fun _ => ?_, fun y => absurd ((cd_in hi').trans h59) y⟩
              intro u8 e8
              rw [e8]
              refine c3 _ Post _ b1.step (fun r'' d1 d2 => h r'' d1 ((b2.trans (RE.step _ _).rq).trans d2)) (fun e2 u2 f1 f2 => ?_)
              rcases f2 with f2 | f2
              · rw [f2] at f1
                exact ⟨fun _ => f1, fun y => absurd f2 y⟩
              · rw [f2] at f1
                exact ⟨fun y => absurd (f2.symm.trans y) (by decide), fun _ => f1⟩
        · refine ⟨nI i', Or.inr ⟨i', by omega, rfl⟩, fun o Post K hO h => ?_, fun r Post P hR h hp => ?_⟩
          · unfold wl_Ord_fault_7
            refine ⟨fun y => absurd y nk, fun _ => s4 _ _ hO (fun o' b1 b2 _ => ⟨fun y => absurd y e0, fun _ => ?_⟩)⟩
            have hf := h _ b1.1 b2
            rw [b1.1, b1.2.1, nI_clamp (by omega), b1.2.2 i' hi']
            exact ⟨fun _ => ⟨vp_in_nI (by omega) (by omega), fun y => absurd y h59, fun _ => hf⟩, fun y => absurd (lt_nI (by omega) hi') y⟩
          · refine s5 _ _ hR (fun r' b1 b2 _ => hp _ _ ?_ (Or.inr s3))
            unfold wl_Mod_faultOf_10
            refine ⟨fun y => absurd y e0, fun _ => ⟨fun y => absurd y ?_, fun _ => ?_⟩⟩
            · rw [b1.1, b1.2.1]
              exact nI_ge hi' (by omega)
            · refine t_code hl (by omega) b1 ⟨fun y => absurd ((cd_in hi').symm.trans y) h59, fun _ => ?_⟩
              intro u7 e7
              rw [e7]
              unfold wl_Mod_faultOf_10
              refine ⟨fun _ => ?_, fun y => absurd rfl y⟩
              unfold KfF
              refine ⟨fun _ => ?_, fun y => absurd rfl y⟩
              have ep : (rS r' 2 (r'.2.2.2 2 + 0)).2.2.2 2 = nI i' := by
                show r'.2.2.2 2 + 0 = _
                rw [Int32.add_zero, b1.2.1]
              rw [ep]
              exact h _ b1.1 (b2.trans (RE.step _ _).rq)
      · have ei : i' = l := by omega
        subst ei
        refine ⟨-1, Or.inl rfl, fun o Post K hO h => ?_, fun r Post P hR h hp => ?_⟩
        · unfold wl_Ord_fault_7
          refine ⟨fun y => absurd y nk, fun _ => s4 _ _ hO (fun o' b1 b2 _ => ⟨fun y => absurd y e0, fun _ => ?_⟩)⟩
          have hf := h _ b1.1 b2
          rw [b1.1, b1.2.1]
          exact ⟨fun y => absurd (Int32.le_refl _) (Int32.not_le.mpr y), fun _ => hf⟩
        · refine s5 _ _ hR (fun r' b1 b2 _ => hp _ _ ?_ (Or.inr s3))
          unfold wl_Mod_faultOf_10
          refine ⟨fun y => absurd y e0, fun _ => ⟨fun _ => ?_, fun y => absurd ?_ y⟩⟩
          · unfold KfF
            exact ⟨fun y => absurd y e0, fun _ => h _ b1.1 b2⟩
          · rw [b1.1, b1.2.1]
            exact Int32.le_refl _
theorem fa_sim (t : Nat → Int32) (l : Nat) (hl : l ≤ 100) : ∃ x : Int32, (x = -1 ∨ ∃ v, v ≤ 100 ∧ x = nI v) ∧
    (∀ (o : OS) (Post : Int32 → OS → Prop), o.1 0 = nI l → (∀ k, k < l → o.2 k = t k) → (∀ o', o'.1 0 = nI l → o'.2 = o.2 → Post x o') → wp_Ord_fault o Post) ∧
    (∀ (r : RS) (Post : Int32 → RS → Prop), r.2.2.2 1 = nI l → (∀ k, k < l → r.2.1 k = t k) → (∀ r', r'.2.2.2 1 = nI l → RQ r r' → Post x r') → wp_Mod_faultOf r Post) := by
  obtain ⟨x, c1, c2, c3⟩ := fl_sim t l hl (l + 1) 0 0 (by omega) (by omega) (by omega)
  refine ⟨x, c1, fun o Post h1 h2 h => ?_, fun r Post h1 h2 h => ?_⟩
  · unfold wp_Ord_fault
    intro u1 e1
    rw [e1]
    exact ⟨l + 1, c2 _ Post _ ⟨h1, rfl, h2⟩ h⟩
  · unfold wp_Mod_faultOf
    intro u1 e1
    rw [e1]
    exact c3 _ Post _ ⟨h1, rfl, h2⟩ (fun r' d1 d2 => h r' d1 ((RQ.set r 0 (by omega)).trans d2)) (fun e u2 f1 _ => ⟨l + 1 + 1, f1⟩)
