/-! Looking: a kind. -/
def kb (c : CS) (k m : Nat) : Bool := decide (c.2.1 9 m = nI k ∧ c.2.1 10 m = 0)
theorem fb_ct_tail {p : Nat → Bool} {N : Nat} : ∀ d, (∀ m, N ≤ m → m < N + d → p m = false) → fb_ct p (N + d) = fb_ct p N := by
  intro d
  induction d with
  | zero => intro _; rfl
  | succ d ih =>
    intro h
    have e := h (N + d) (by omega) (by omega)
    show fb_ct p (N + d) + (if p (N + d) then 1 else 0) = _
    rw [e, ih (fun m h1 h2 => h m h1 (by omega))]
    rfl
theorem k_keptOf {c : CS} {k : Nat} {Post : Int32 → CS → Prop} (h : Post (nI (fb_ct (kb c k) 12)) c) : wp_Hmp_keptOf c (nI k) Post := by
  have go : ∀ n i, i ≤ 12 → 12 - i < n → wl_Hmp_keptOf_4 Post (fun x u => Post x u) n (nI k) (nI (fb_ct (kb c k) i)) (nI i) c := by
    intro n
    induction n with
    | zero => intro i h1 h2; omega
    | succ n ih =>
      intro i h1 h2
      unfold wl_Hmp_keptOf_4
      rw [i12 h1, nI_clamp (by omega)]
      refine ⟨fun q => by subst q; exact h, fun q => ?_⟩
      have hin : vp_in (nI i) 12 := vp_in_nI (by omega) (by omega)
      have e := fb_ct_succ (kb c k) i
      have nx : ∀ v : Int32, v = nI (fb_ct (kb c k) (i + 1)) → ∀ x : Int32, x = nI i + 1 → wl_Hmp_keptOf_4 Post (fun x u => Post x u) n (nI k) v x c := by
        intro v ev x ex
        rw [ev, ex, nI_1]
        exact ih (i + 1) (by omega) (by omega)
      refine ⟨hin, fun q1 => ⟨hin, fun q2 => ?_, fun q2 => ?_⟩, fun q1 => ?_⟩
      · intro v ev
        refine nx v ?_
        have hp : kb c k i = true := decide_eq_true ⟨q1, q2⟩
        rw [ev, e, hp, nI_1]
        rfl
      · intro v ev
        refine nx v ?_
        have hp : kb c k i = false := decide_eq_false (fun y => q2 y.2)
        rw [ev, e, hp, Int32.add_zero]
        rfl
      · intro v ev
        refine nx v ?_
        have hp : kb c k i = false := decide_eq_false (fun y => q1 y.1)
        rw [ev, e, hp, Int32.add_zero]
        rfl
  exact ⟨13, go 13 0 (by omega) (by omega)⟩
theorem t_keptOf {c : CS} {u : RS} {w N k : Nat} {Post : Int32 → RS → Prop} (hc : CP c u.1 w N) (hk : k < 4) (h : Post (nI (fb_ct (kb c k) N)) u) : wp_Mod_keptOf u (nI k) Post := by
  have hN := hc.1.2.1
  have hu1 : u.1 1 = nI N := hc.1.2.2.2.2.2.1
  have go : ∀ n i, i ≤ N → N - i < n → wl_Mod_keptOf_4 Post (fun x v => Post x v) n (nI k) (nI (fb_ct (kb c k) i)) (nI i) u := by
    intro n
    induction n with
    | zero => intro i h1 h2; omega
    | succ n ih =>
      intro i h1 h2
      unfold wl_Mod_keptOf_4
      rw [c1, hu1]
      refine ⟨fun q => ?_, fun q => ?_⟩
      · have : i = N := by
          rcases Nat.lt_or_ge i N with z | z
          · exact absurd q (nI_ge z (by omega))
          · omega
        subst this
        exact h
      · have hi : i < N := Nat.lt_of_not_le (fun z => q (nI_le z (by omega)))
        obtain ⟨b1, b2, b3, b4, b5, -⟩ := hc.2.1 i hi
        have e3 : u.1 (70 + 13 * i + 3) = c.2.1 9 i := b4
        have e4 : u.1 (70 + 13 * i + 4) = (if ¬ c.2.1 9 i = -9 ∧ c.2.1 10 i = 0 then 1 else 0) := b5
        rw [ofc3 (by omega), ofc4 (by omega), e3, e4]
        have e := fb_ct_succ (kb c k) i
        have nx : ∀ v : Int32, v = nI (fb_ct (kb c k) (i + 1)) → ∀ x : Int32, x = nI i + 1 → wl_Mod_keptOf_4 Post (fun x v => Post x v) n (nI k) v x u := by
          intro v ev x ex
          rw [ev, ex, nI_1]
          exact ih (i + 1) (by omega) (by omega)
        refine ⟨ofi3 (by omega), fun q1 => ⟨ofi4 (by omega), fun q2 => ?_, fun q2 => ?_⟩, fun q1 => ?_⟩
        · intro v ev
          refine nx v ?_
          have q3 : c.2.1 10 i = 0 := Classical.byContradiction (fun y => by
            rw [if_neg (fun x => y x.2)] at q2
            exact absurd q2 (by decide))
          have hp : kb c k i = true := decide_eq_true ⟨q1, q3⟩
          rw [ev, e, hp, nI_1]
          rfl
        · intro v ev
          refine nx v ?_
          have hp : kb c k i = false := decide_eq_false (fun y => q2 (if_pos ⟨fun x => neg9_ne hk (x.symm.trans q1), y.2⟩))
          rw [ev, e, hp, Int32.add_zero]
          rfl
        · intro v ev
          refine nx v ?_
          have hp : kb c k i = false := decide_eq_false (fun y => q1 y.1)
          rw [ev, e, hp, Int32.add_zero]
          rfl
  exact ⟨N + 1, go (N + 1) 0 (by omega) (by omega)⟩
