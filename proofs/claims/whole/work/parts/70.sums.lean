/-! Sums over the members. -/
theorem bsum_cong {f g : Nat → Int32} : ∀ n, (∀ m, m < n → f m = g m) → bsum f n = bsum g n := by
  intro n
  induction n with
  | zero => intro _; rfl
  | succ n ih =>
    intro h
    show bsum f n + f n = bsum g n + g n
    rw [ih (fun m hm => h m (by omega)), h n (by omega)]
theorem k_allStamps {c : CS} {N : Nat} {Post : Int32 → CS → Prop} (hc4 : c.1 4 = nI N) (hN : N ≤ 12) (h : Post (bsum (c.2.1 0) N) c) : wp_Crd_allStamps c Post := by
  have go : ∀ n i, i ≤ N → N - i < n → wl_Crd_allStamps_4 Post (fun x u => Post x u) n (bsum (c.2.1 0) i) (nI i) c := by
    intro n
    induction n with
    | zero => intro i h1 h2; omega
    | succ n ih =>
      intro i h1 h2
      unfold wl_Crd_allStamps_4
      rw [hc4]
      refine ⟨fun q => ?_, fun q => ?_⟩
      · have : i = N := by
          rcases Nat.lt_or_ge i N with z | z
          · exact absurd q (nI_ge z (by omega))
          · omega
        subst this
        exact h
      · have hi : i < N := Nat.lt_of_not_le (fun z => q (nI_le z (by omega)))
        rw [nI_clamp (by omega)]
        refine ⟨vp_in_nI (by omega) (by omega), ?_⟩
        intro x ex y ey
        rw [ex, ey, nI_1]
        exact ih (i + 1) (by omega) (by omega)
  exact ⟨N + 1, go (N + 1) 0 (by omega) (by omega)⟩
theorem k_drawn {c : CS} {N : Nat} {Post : Int32 → CS → Prop} (hc4 : c.1 4 = nI N) (hN : N ≤ 12) (h : Post (bsum (c.2.1 5) N) c) : wp_Crd_drawnMembers c Post := by
  have go : ∀ n i, i ≤ N → N - i < n → wl_Crd_drawnMembers_4 Post (fun x u => Post x u) n (bsum (c.2.1 5) i) (nI i) c := by
    intro n
    induction n with
    | zero => intro i h1 h2; omega
    | succ n ih =>
      intro i h1 h2
      unfold wl_Crd_drawnMembers_4
      rw [hc4]
      refine ⟨fun q => ?_, fun q => ?_⟩
      · have : i = N := by
          rcases Nat.lt_or_ge i N with z | z
          · exact absurd q (nI_ge z (by omega))
          · omega
        subst this
        exact h
      · have hi : i < N := Nat.lt_of_not_le (fun z => q (nI_le z (by omega)))
        rw [nI_clamp (by omega)]
        refine ⟨vp_in_nI (by omega) (by omega), ?_⟩
        intro x ex y ey
        rw [ex, ey, nI_1]
        exact ih (i + 1) (by omega) (by omega)
  exact ⟨N + 1, go (N + 1) 0 (by omega) (by omega)⟩
theorem k_mislaid {c : CS} {N : Nat} {Post : Int32 → CS → Prop} (hc4 : c.1 4 = nI N) (hN : N ≤ 12) (h : Post (bsum (fun m => if c.2.1 1 m = 1 then 1 else 0) N) c) : wp_Crd_mislaidCards c Post := by
  have go : ∀ n i, i ≤ N → N - i < n → wl_Crd_mislaidCards_4 Post (fun x u => Post x u) n (bsum (fun m => if c.2.1 1 m = 1 then 1 else 0) i) (nI i) c := by
    intro n
    induction n with
    | zero => intro i h1 h2; omega
    | succ n ih =>
      intro i h1 h2
      unfold wl_Crd_mislaidCards_4
      rw [hc4]
      refine ⟨fun q => ?_, fun q => ?_⟩
      · have : i = N := by
          rcases Nat.lt_or_ge i N with z | z
          · exact absurd q (nI_ge z (by omega))
          · omega
        subst this
        exact h
      · have hi : i < N := Nat.lt_of_not_le (fun z => q (nI_le z (by omega)))
        rw [nI_clamp (by omega)]
        have nx := ih (i + 1) (by omega) (by omega)
        have e : bsum (fun m => if c.2.1 1 m = 1 then (1 : Int32) else 0) (i + 1) = bsum (fun m => if c.2.1 1 m = 1 then (1 : Int32) else 0) i + (if c.2.1 1 i = 1 then 1 else 0) := rfl
        rw [e] at nx
        refine ⟨vp_in_nI (by omega) (by omega), fun z => ?_, fun z => ?_⟩
        · rw [if_pos z] at nx
          intro x ex y ey
          rw [ex, ey, nI_1]
          exact nx
        · rw [if_neg z] at nx
          intro x ex y ey
          rw [ex, ey, nI_1]
          exact nx
  exact ⟨N + 1, go (N + 1) 0 (by omega) (by omega)⟩
theorem t_sumOf {u : RS} {N v : Nat} {Post : Int32 → RS → Prop} (h1 : u.1 1 = nI N) (hN : N ≤ 12) (hv : v < 13) (h : Post (bsum (fun m => mb u.1 m v) N) u) : wp_Mod_sumOf u (nI v) Post := by
  have go : ∀ n i, i ≤ N → N - i < n → wl_Mod_sumOf_4 Post (fun x w => Post x w) n (nI v) (bsum (fun m => mb u.1 m v) i) (nI i) u := by
    intro n
    induction n with
    | zero => intro i h1 h2; omega
    | succ n ih =>
      intro i g1 g2
      unfold wl_Mod_sumOf_4
      rw [c1, h1]
      refine ⟨fun q => ?_, fun q => ?_⟩
      · have : i = N := by
          rcases Nat.lt_or_ge i N with z | z
          · exact absurd q (nI_ge z (by omega))
          · omega
        subst this
        exact h
      · have hi : i < N := Nat.lt_of_not_le (fun z => q (nI_le z (by omega)))
        rw [of_cl (by omega) hv]
        refine ⟨of_in (by omega) hv, ?_⟩
        intro x ex y ey
        rw [ex, ey, nI_1]
        exact ih (i + 1) (by omega) (by omega)
  exact ⟨N + 1, go (N + 1) 0 (by omega) (by omega)⟩
theorem t_mislaid {u : RS} {N : Nat} {Post : Int32 → RS → Prop} (h1 : u.1 1 = nI N) (hN : N ≤ 12) (h : Post (bsum (fun m => if mb u.1 m 1 = 1 then 1 else 0) N) u) : wp_Mod_mislaid u Post := by
  have go : ∀ n i, i ≤ N → N - i < n → wl_Mod_mislaid_4 Post (fun x w => Post x w) n (bsum (fun m => if mb u.1 m 1 = 1 then 1 else 0) i) (nI i) u := by
    intro n
    induction n with
    | zero => intro i h1 h2; omega
    | succ n ih =>
      intro i g1 g2
      unfold wl_Mod_mislaid_4
      rw [c1, h1]
      refine ⟨fun q => ?_, fun q => ?_⟩
      · have : i = N := by
          rcases Nat.lt_or_ge i N with z | z
          · exact absurd q (nI_ge z (by omega))
          · omega
        subst this
        exact h
      · have hi : i < N := Nat.lt_of_not_le (fun z => q (nI_le z (by omega)))
        rw [ofc1 (by omega)]
        have nx := ih (i + 1) (by omega) (by omega)
        have e : bsum (fun m => if mb u.1 m 1 = 1 then (1 : Int32) else 0) (i + 1) = bsum (fun m => if mb u.1 m 1 = 1 then (1 : Int32) else 0) i + (if mb u.1 i 1 = 1 then 1 else 0) := rfl
        rw [e] at nx
        refine ⟨ofi1 (by omega), fun z => ?_, fun z => ?_⟩
        · have z : mb u.1 i 1 = 1 := z
          rw [if_pos z] at nx
          intro x ex y ey
          rw [ex, ey, nI_1]
          exact nx
        · have z : ¬ mb u.1 i 1 = 1 := z
          rw [if_neg z] at nx
          intro x ex y ey
          rw [ex, ey, nI_1]
          exact nx
  exact ⟨N + 1, go (N + 1) 0 (by omega) (by omega)⟩
