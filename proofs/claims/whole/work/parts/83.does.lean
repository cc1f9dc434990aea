/-! An order carried out, on both sides. -/
def dJ (u1 : RS) (Post : Int32 → RS → Prop) : Prop := (((u1.2.2.2 3) = 43 → (wp_Mod_doStick u1 (u1.2.2.2 4) (u1.2.2.2 5) (fun x4 u3 => Post 1 u3))) ∧ ((u1.2.2.2 3) = 45 → (wp_Mod_doWithdraw u1 (u1.2.2.2 4) (u1.2.2.2 5) (fun x6 u5 => Post 1 u5))) ∧ ((u1.2.2.2 3) = 104 → (wp_Mod_doChoose u1 (u1.2.2.2 4) (u1.2.2.2 5) (fun x8 u7 => Post 1 u7))) ∧ ((u1.2.2.2 3) = 108 → (wp_Mod_doMislay u1 (u1.2.2.2 4) (fun x10 u9 => Post 1 u9))) ∧ ((u1.2.2.2 3) = 119 → (wp_Mod_doWeek u1  (fun x12 u11 => Post 1 u11))) ∧ ((u1.2.2.2 3) = 120 → (wp_Mod_drop u1 (u1.2.2.2 4) (fun x14 u13 => Post 1 u13))) ∧ (¬ (u1.2.2.2 3) = 43 → ¬ (u1.2.2.2 3) = 45 → ¬ (u1.2.2.2 3) = 104 → ¬ (u1.2.2.2 3) = 108 → ¬ (u1.2.2.2 3) = 119 → ¬ (u1.2.2.2 3) = 120 → (wp_Mod_doFind u1 (u1.2.2.2 4) (fun x16 u15 => Post 1 u15))))
theorem does_eq (u : RS) (Post : Int32 → RS → Prop) : wp_Mod_does u Post = wp_Mod_noOrder u (fun x2 u1 => ((x2 = 0 → dJ u1 Post) ∧ (¬ x2 = 0 → Post 0 u1))) := rfl
def DoOut (c : CS) (g : Nat → Int32) (L a q : Int32) : Prop :=
  (∃ e : Int32, e < 0 ∧ (∀ (o : OS) (Post : Int32 → OS × CS → Prop), OF L a q o → Post e (o, c) → wp_Ord_carryOutOrder (o, c) Post) ∧ (∀ (r : RS) (Post : Int32 → RS → Prop), r.1 = g → RFF L a q r → Post 0 r → wp_Mod_does r Post)) ∨
  (∃ (x : Int32) (c' : CS) (g' : Nat → Int32) (w' N' : Nat), 0 ≤ x ∧ CRw c' g' w' N' ∧ (∀ i, 226 ≤ i → g' i = g i) ∧ (∀ (o : OS) (Post : Int32 → OS × CS → Prop), OF L a q o → Post x (o, c') → wp_Ord_carryOutOrder (o, c) Post) ∧ (∀ (r : RS) (Post : Int32 → RS → Prop), r.1 = g → RFF L a q r → Post 1 (rR r g') → wp_Mod_does r Post))
theorem do_of {cw : (Int32 → CS → Prop) → Prop} {nw dw : RS → (Int32 → RS → Prop) → Prop} {c : CS} {g : Nat → Int32} {w N : Nat} {L a q : Int32} (hs : OpSim cw nw dw c) (hc : CRw c g w N)
    (hcl : ∀ (o : OS) (Post : Int32 → OS × CS → Prop), OF L a q o → cw (fun x c' => Post x (o, c')) → wp_Ord_carryOutOrder (o, c) Post)
    (hno : ∀ (r : RS) (Post : Int32 → RS → Prop), RFF L a q r → nw r Post → wp_Mod_noOrder r Post)
    (hdo : ∀ (r : RS) (Post : Int32 → RS → Prop), RFF L a q r → dw r (fun _ v => Post 1 v) → dJ r Post) : DoOut c g L a q := by
  rcases hs g g w N hc hc with ⟨e, he, h1, h2⟩ | ⟨x, c', g', w', N', hx, hcr, hout, h1, h2, h3⟩
  · refine Or.inl ⟨e, he, fun o Post ho h => hcl o Post ho (h1 _ h), fun r Post er hr h => ?_⟩
    rw [does_eq]
    exact hno r _ hr (h2 r _ er ⟨fun y => absurd he (by rw [y]; decide), fun _ => h⟩)
  · refine Or.inr ⟨x, c', g', w', N', hx, hcr, hout, fun o Post ho h => hcl o Post ho (h1 _ h), fun r Post er hr h => ?_⟩
    rw [does_eq]
    exact hno r _ hr (h2 r _ er ⟨fun _ => hdo r Post hr (h3 r _ er h), fun y => absurd rfl y⟩)
theorem do_sim {c : CS} {g : Nat → Int32} {w N : Nat} {L : Int32} (a q : Int32) (hc : CRw c g w N) (hL : L = 119 ∨ two L ∨ one L) : DoOut c g L a q := by
  rcases hL with rfl | (rfl | rfl | rfl) | (rfl | rfl | rfl)
  · refine do_of (sim_week c) hc (fun o Post ho h => ?_) (fun r Post hr h => ?_) (fun r Post hr h => ?_)
    · obtain ⟨o1, o2, o3⟩ := ho
      unfold wp_Ord_carryOutOrder
      show _ ∧ _ ∧ _ ∧ _ ∧ _ ∧ _ ∧ _
      rw [o1]
      exact ⟨fun y => absurd y (by decide), fun y => absurd y (by decide), fun y => absurd y (by decide), fun y => absurd y (by decide), fun y => absurd y (by decide), fun y => absurd y (by decide), fun y0 y1 y2 y3 y4 y5 => h⟩
    · obtain ⟨o1, o2, o3⟩ := hr
      unfold wp_Mod_noOrder
      rw [o1]
      exact ⟨fun _ => h, fun y => absurd rfl y⟩
    · obtain ⟨o1, o2, o3⟩ := hr
      unfold dJ
      rw [o1]
      exact ⟨fun y => absurd y (by decide), fun y => absurd y (by decide), fun y => absurd y (by decide), fun y => absurd y (by decide), fun _ => h, fun y => absurd y (by decide), fun y0 y1 y2 y3 y4 y5 => absurd rfl y4⟩
  · refine do_of (sim_stick c a q) hc (fun o Post ho h => ?_) (fun r Post hr h => ?_) (fun r Post hr h => ?_)
    · obtain ⟨o1, o2, o3⟩ := ho
      have o2 := o2 (by decide)
      have o3 := o3 (by unfold two; decide)
      unfold wp_Ord_carryOutOrder
      show _ ∧ _ ∧ _ ∧ _ ∧ _ ∧ _ ∧ _
      rw [o1]
      rw [o2, o3]
      exact ⟨fun _ => h, fun y => absurd y (by decide), fun y => absurd y (by decide), fun y => absurd y (by decide), fun y => absurd y (by decide), fun y => absurd y (by decide), fun y0 y1 y2 y3 y4 y5 => absurd rfl y0⟩
    · obtain ⟨o1, o2, o3⟩ := hr
      have o2 := o2 (by decide)
      have o3 := o3 (by unfold two; decide)
      unfold wp_Mod_noOrder
      rw [o1]
      rw [o2, o3]
      exact ⟨fun y => absurd y (by decide), fun _ => ⟨fun _ => h, fun y => absurd rfl y⟩⟩
    · obtain ⟨o1, o2, o3⟩ := hr
      have o2 := o2 (by decide)
      have o3 := o3 (by unfold two; decide)
      unfold dJ
      rw [o1]
      rw [o2, o3]
      exact ⟨fun _ => h, fun y => absurd y (by decide), fun y => absurd y (by decide), fun y => absurd y (by decide), fun y => absurd y (by decide), fun y => absurd y (by decide), fun y0 y1 y2 y3 y4 y5 => absurd rfl y0⟩
  · refine do_of (sim_withdraw c a q) hc (fun o Post ho h => ?_) (fun r Post hr h => ?_) (fun r Post hr h => ?_)
    · obtain ⟨o1, o2, o3⟩ := ho
      have o2 := o2 (by decide)
      have o3 := o3 (by unfold two; decide)
      unfold wp_Ord_carryOutOrder
      show _ ∧ _ ∧ _ ∧ _ ∧ _ ∧ _ ∧ _
      rw [o1]
      rw [o2, o3]
      exact ⟨fun y => absurd y (by decide), fun _ => h, fun y => absurd y (by decide), fun y => absurd y (by decide), fun y => absurd y (by decide), fun y => absurd y (by decide), fun y0 y1 y2 y3 y4 y5 => absurd rfl y1⟩
    · obtain ⟨o1, o2, o3⟩ := hr
      have o2 := o2 (by decide)
      have o3 := o3 (by unfold two; decide)
      unfold wp_Mod_noOrder
      rw [o1]
      rw [o2, o3]
      exact ⟨fun y => absurd y (by decide), fun _ => ⟨fun y => absurd y (by decide), fun _ => ⟨fun _ => h, fun y => absurd rfl y⟩⟩⟩
    · obtain ⟨o1, o2, o3⟩ := hr
      have o2 := o2 (by decide)
      have o3 := o3 (by unfold two; decide)
      unfold dJ
      rw [o1]
      rw [o2, o3]
      exact ⟨fun y => absurd y (by decide), fun _ => h, fun y => absurd y (by decide), fun y => absurd y (by decide), fun y => absurd y (by decide), fun y => absurd y (by decide), fun y0 y1 y2 y3 y4 y5 => absurd rfl y1⟩
  · refine do_of (sim_choose c a q) hc (fun o Post ho h => ?_) (fun r Post hr h => ?_) (fun r Post hr h => ?_)
    · obtain ⟨o1, o2, o3⟩ := ho
      have o2 := o2 (by decide)
      have o3 := o3 (by unfold two; decide)
      unfold wp_Ord_carryOutOrder
      show _ ∧ _ ∧ _ ∧ _ ∧ _ ∧ _ ∧ _
      rw [o1]
      rw [o2, o3]
      exact ⟨fun y => absurd y (by decide), fun y => absurd y (by decide), fun y => absurd y (by decide), fun _ => h, fun y => absurd y (by decide), fun y => absurd y (by decide), fun y0 y1 y2 y3 y4 y5 => absurd rfl y3⟩
    · obtain ⟨o1, o2, o3⟩ := hr
      have o2 := o2 (by decide)
      have o3 := o3 (by unfold two; decide)
      unfold wp_Mod_noOrder
      rw [o1]
      rw [o2, o3]
      exact ⟨fun y => absurd y (by decide), fun _ => ⟨fun y => absurd y (by decide), fun _ => ⟨fun y => absurd y (by decide), fun _ => ⟨fun _ => h, fun y => absurd rfl y⟩⟩⟩⟩
    · obtain ⟨o1, o2, o3⟩ := hr
      have o2 := o2 (by decide)
      have o3 := o3 (by unfold two; decide)
      unfold dJ
      rw [o1]
      rw [o2, o3]
      exact ⟨fun y => absurd y (by decide), fun y => absurd y (by decide), fun _ => h, fun y => absurd y (by decide), fun y => absurd y (by decide), fun y => absurd y (by decide), fun y0 y1 y2 y3 y4 y5 => absurd rfl y2⟩
  · refine do_of (sim_giveUp c a) hc (fun o Post ho h => ?_) (fun r Post hr h => ?_) (fun r Post hr h => ?_)
    · obtain ⟨o1, o2, o3⟩ := ho
      have o2 := o2 (by decide)
      unfold wp_Ord_carryOutOrder
      show _ ∧ _ ∧ _ ∧ _ ∧ _ ∧ _ ∧ _
      rw [o1]
      rw [o2]
      exact ⟨fun y => absurd y (by decide), fun y => absurd y (by decide), fun y => absurd y (by decide), fun y => absurd y (by decide), fun y => absurd y (by decide), fun _ => h, fun y0 y1 y2 y3 y4 y5 => absurd rfl y5⟩
    · obtain ⟨o1, o2, o3⟩ := hr
      have o2 := o2 (by decide)
      unfold wp_Mod_noOrder
      rw [o1]
      rw [o2]
      exact ⟨fun y => absurd y (by decide), fun _ => ⟨fun y => absurd y (by decide), fun _ => ⟨fun y => absurd y (by decide), fun _ => ⟨fun y => absurd y (by decide), fun _ => ⟨fun _ => h, fun y => absurd rfl y⟩⟩⟩⟩⟩
    · obtain ⟨o1, o2, o3⟩ := hr
      have o2 := o2 (by decide)
      unfold dJ
      rw [o1]
      rw [o2]
      exact ⟨fun y => absurd y (by decide), fun y => absurd y (by decide), fun y => absurd y (by decide), fun y => absurd y (by decide), fun y => absurd y (by decide), fun _ => h.2 _ rfl, fun y0 y1 y2 y3 y4 y5 => absurd rfl y5⟩
  · refine do_of (sim_mislay c a) hc (fun o Post ho h => ?_) (fun r Post hr h => ?_) (fun r Post hr h => ?_)
    · obtain ⟨o1, o2, o3⟩ := ho
      have o2 := o2 (by decide)
      unfold wp_Ord_carryOutOrder
      show _ ∧ _ ∧ _ ∧ _ ∧ _ ∧ _ ∧ _
      rw [o1]
      rw [o2]
      exact ⟨fun y => absurd y (by decide), fun y => absurd y (by decide), fun y => absurd y (by decide), fun y => absurd y (by decide), fun _ => h, fun y => absurd y (by decide), fun y0 y1 y2 y3 y4 y5 => absurd rfl y4⟩
    · obtain ⟨o1, o2, o3⟩ := hr
      have o2 := o2 (by decide)
      unfold wp_Mod_noOrder
      rw [o1]
      rw [o2]
      exact ⟨fun y => absurd y (by decide), fun _ => ⟨fun y => absurd y (by decide), fun _ => ⟨fun y => absurd y (by decide), fun _ => ⟨fun y => absurd y (by decide), fun _ => ⟨fun y => absurd y (by decide), fun _ => ⟨fun _ => h, fun y => absurd rfl y⟩⟩⟩⟩⟩⟩
    · obtain ⟨o1, o2, o3⟩ := hr
      have o2 := o2 (by decide)
      unfold dJ
      rw [o1]
      rw [o2]
      exact ⟨fun y => absurd y (by decide), fun y => absurd y (by decide), fun y => absurd y (by decide), fun _ => h, fun y => absurd y (by decide), fun y => absurd y (by decide), fun y0 y1 y2 y3 y4 y5 => absurd rfl y3⟩
  · refine do_of (sim_find c a) hc (fun o Post ho h => ?_) (fun r Post hr h => ?_) (fun r Post hr h => ?_)
    · obtain ⟨o1, o2, o3⟩ := ho
      have o2 := o2 (by decide)
      unfold wp_Ord_carryOutOrder
      show _ ∧ _ ∧ _ ∧ _ ∧ _ ∧ _ ∧ _
      rw [o1]
      rw [o2]
      exact ⟨fun y => absurd y (by decide), fun y => absurd y (by decide), fun _ => h, fun y => absurd y (by decide), fun y => absurd y (by decide), fun y => absurd y (by decide), fun y0 y1 y2 y3 y4 y5 => absurd rfl y2⟩
    · obtain ⟨o1, o2, o3⟩ := hr
      have o2 := o2 (by decide)
      unfold wp_Mod_noOrder
      rw [o1]
      rw [o2]
      exact ⟨fun y => absurd y (by decide), fun _ => ⟨fun y => absurd y (by decide), fun _ => ⟨fun y => absurd y (by decide), fun _ => ⟨fun y => absurd y (by decide), fun _ => ⟨fun y => absurd y (by decide), fun _ => ⟨fun y => absurd y (by decide), fun _ => h⟩⟩⟩⟩⟩⟩
    · obtain ⟨o1, o2, o3⟩ := hr
      have o2 := o2 (by decide)
      unfold dJ
      rw [o1]
      rw [o2]
      exact ⟨fun y => absurd y (by decide), fun y => absurd y (by decide), fun y => absurd y (by decide), fun y => absurd y (by decide), fun y => absurd y (by decide), fun y => absurd y (by decide), fun y0 y1 y2 y3 y4 y5 => h⟩
