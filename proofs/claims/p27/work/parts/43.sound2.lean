/-! The club is sound: the kinds, the accounts. -/
def kS (c : CS) (k m : Nat) : Int32 := if c.2.1 9 m = nI k then keptV c m else 0
def wS (c : CS) (k m : Nat) : Int32 := if c.2.1 9 m = nI k then (if c.2.1 10 m ≤ 0 then 0 else 1) else 0
theorem bsum_ct {f : Nat → Int32} {p : Nat → Bool} : ∀ n, (∀ m, m < n → f m = if p m = true then 1 else 0) → bsum f n = nI (fb_ct p n) := by
  intro n
  induction n with
  | zero => intro _; rfl
  | succ n ih =>
    intro h
    show bsum f n + f n = _
    rw [ih (fun m hm => h m (by omega)), h n (by omega), fb_ct_succ]
    by_cases z : p n = true
    · rw [if_pos z, if_pos z, nI_1]
    · rw [if_neg z, if_neg z]
      exact Int32.add_zero _
theorem kS_sum {c : CS} {w N k : Nat} (hB : Base c w N) (hk : k < 4) : bsum (kS c k) N = nI (kct c k) := by
  have hN := hB.2.1.2.1
  rw [bsum_ct (p := fun m => decide (c.2.1 9 m = nI k ∧ c.2.1 10 m = 0)) N (fun m hm => ?_)]
  · unfold kct
    rw [fb_ct_tail 12 hN (fun m h1 h2 => decide_eq_false (fun z => by
      rw [(hB.2.2.2.1 m h1 h2).2.2.2.2.1] at z
      exact neg9_ne hk z.1))]
  · unfold kS
    by_cases h9 : c.2.1 9 m = nI k
    · rw [if_pos h9, keptV_eq hk h9]
      by_cases h10 : c.2.1 10 m = 0
      · rw [if_pos h10, if_pos (decide_eq_true ⟨h9, h10⟩)]
      · rw [if_neg h10, if_neg (fun z => h10 (of_decide_eq_true z).2)]
    · rw [if_neg h9, if_neg (fun z => h9 (of_decide_eq_true z).1)]
theorem wS_sum {c : CS} {w N k : Nat} (hB : Base c w N) (hk : k < 4) : bsum (wS c k) N = nI (fb_ct (pw c k) 12) := by
  have hN := hB.2.1.2.1
  have e : fb_ct (pw c k) 12 = fb_ct (pw c k) N := fb_ct_tail 12 hN (fun m h1 h2 => by
    unfold pw
    refine decide_eq_false (fun z => ?_)
    rw [(hB.2.2.2.1 m h1 h2).2.2.2.2.1] at z
    exact neg9_ne hk z.1)
  rw [bsum_ct (p := pw c k) N (fun m hm => ?_)]
  · rw [e]
  · unfold wS pw
    by_cases h9 : c.2.1 9 m = nI k
    · rw [if_pos h9]
      by_cases h10 : c.2.1 10 m ≤ 0
      · rw [if_pos h10, if_neg (fun z => (of_decide_eq_true z).2 h10)]
      · rw [if_neg h10, if_pos (decide_eq_true ⟨h9, h10⟩)]
    · rw [if_neg h9, if_neg (fun z => h9 (of_decide_eq_true z).1)]
theorem s_369 {z : ZZ} {w N k : Nat} {a1 a2 a3 a4 a5 a6 : Int32} {Post : Int32 → ZZ → Prop} {K : Int32 → Int32 → Int32 → Int32 → Int32 → Int32 → Int32 → Int32 → Int32 → ZZ → Prop} (hG : InvG z.1 w N) (h : K a1 a2 a3 a4 a5 a6 (nI k) (bsum (kS z.1 k) N) (bsum (wS z.1 k) N) z) : ∀ n i, i ≤ N → N - i < n → wl_Law_isSound_369 Post K n a1 a2 a3 a4 a5 a6 (nI k) (bsum (kS z.1 k) i) (bsum (wS z.1 k) i) (nI i) z := by
  have hN := hG.2.1
  intro n
  induction n with
  | zero => intro i h1 h2; omega
  | succ n ih =>
    intro i h1 h2
    unfold wl_Law_isSound_369
    refine o_count (z := z) (i := 1) hG (by omega) ?_
    have e4 : cntV z.1 z.2.1 z.2.2.2.1 N 1 = nI N := hG.2.2.2.1
    rw [e4]
    refine ⟨fun q => ?_, fun q => ?_⟩
    · have := ge_of (L := N) (by omega) h1 q
      subst this
      exact h
    · have hi := lt_of (L := N) (by omega) h1 q
      have nx := ih (i + 1) (by omega) (by omega)
      have ek : bsum (kS z.1 k) (i + 1) = bsum (kS z.1 k) i + kS z.1 k i := rfl
      have ew : bsum (wS z.1 k) (i + 1) = bsum (wS z.1 k) i + wS z.1 k i := rfl
      rw [ek, ew] at nx
      unfold kS wS at nx
      have e2 : memV z.1 w i 2 = z.1.2.1 9 i := rfl
      have e5 : memV z.1 w i 4 = z.1.2.1 10 i := rfl
      have e3 : memV z.1 w i 3 = keptV z.1 i := rfl
      refine o_member (z := z) (i := 2) hG hi (by omega) ?_
      rw [e2]
      by_cases h9 : z.1.2.1 9 i = nI k
      · rw [if_pos h9, if_pos h9] at nx
        refine ⟨fun _ => o_member (z := z) (i := 3) hG hi (by omega) ?_, fun y => absurd h9 y⟩
        intro x ex
        rw [ex, e3]
        unfold wb_Law_isSound_407
        refine o_member (z := z) (i := 2) hG hi (by omega) ⟨fun _ => o_member (z := z) (i := 4) hG hi (by omega) ?_, fun y => absurd h9 y⟩
        rw [e5]
        refine ⟨fun y => ?_, fun y => ?_⟩
        · rw [if_pos y] at nx
          intro v ev u eu
          rw [ev, eu, nI_1]
          exact nx
        · rw [if_neg y] at nx
          intro v ev u eu
          rw [ev, eu, nI_1]
          exact nx
      · rw [if_neg h9, if_neg h9] at nx
        refine ⟨fun y => absurd y h9, fun _ => ?_⟩
        intro x ex
        rw [ex]
        unfold wb_Law_isSound_407
        refine o_member (z := z) (i := 2) hG hi (by omega) ⟨fun y => absurd y h9, fun _ => ?_⟩
        intro v ev u eu
        rw [ev, eu, nI_1]
        exact nx
theorem s_354 {z : ZZ} {w N : Nat} {a1 a2 a3 a4 a5 a6 : Int32} {Post : Int32 → ZZ → Prop} {K : Int32 → Int32 → Int32 → Int32 → Int32 → Int32 → ZZ → Prop} (hB : Base z.1 w N) (h : K a1 a2 a3 a4 a5 a6 z) : ∀ n k, k ≤ 4 → 4 - k < n → wl_Law_isSound_354 Post K n a1 a2 a3 a4 a5 a6 (nI k) z := by
  have hG := hB.2.1
  have hN := hG.2.1
  intro n
  induction n with
  | zero => intro i h1 h2; omega
  | succ n ih =>
    intro k h1 h2
    unfold wl_Law_isSound_354
    refine ⟨fun q => ?_, fun q => ?_⟩
    · exact h
    · have hk := lt_of (L := 4) (by omega) h1 q
      have nx := ih (k + 1) (by omega) (by omega)
      obtain ⟨⟨-, s, s1, s2⟩, r, n1, n2, n3, n4⟩ := hB.2.2.2.2 k hk
      have hrc := row_count hN n1 n2 n3 n4
      refine ⟨N + 1, s_369 hG ?_ (N + 1) 0 (by omega) (by omega)⟩
      rw [kS_sum hB hk, wS_sum hB hk, hrc]
      refine o_hamper (z := z) (k := k) (i := 2) hk (by omega) ⟨fun _ => o_hamper (z := z) (k := k) (i := 3) hk (by omega) ?_, fun y => absurd rfl y⟩
      have e3 : hamV z.1 k 3 = nI r := by
        show nI (fb_ct (pw z.1 k) 12) = nI r
        rw [hrc]
      rw [e3]
      refine ⟨fun _ => o_hamper (z := z) (k := k) (i := 1) hk (by omega) ?_, fun y => absurd rfl y⟩
      have e1 : hamV z.1 k 1 = nI s := s1
      rw [e1]
      refine ⟨fun y => absurd y (Int32.not_lt.mpr (nI_nn (by omega))), fun _ => o_waiting (z := z) hk (by omega) ?_⟩
      have ew : waitV z.1 k r = -9 := waitV_9 (fun m hm hp => by
        have e := sub1 hp.2.2
        rw [nI_1] at e
        rcases n3 m hm hp.1 with y | ⟨i, i1, i2⟩
        · rw [e] at y
          exact absurd y (ne0 (by omega))
        · have := (nI_eq (by omega) (by omega)).mp (e.symm.trans i2)
          omega)
      rw [ew]
      refine ⟨fun _ v ev => ?_, fun y => absurd rfl y⟩
      rw [ev, nI_1]
      exact nx
theorem o_sound {z : ZZ} {w N : Nat} {Post : Int32 → ZZ → Prop} (hI : Inv z.1 w N) (h : Post 1 z) : wp_Law_isSound z Post := by
  have hB := hI.1
  have hG := hB.2.1
  obtain ⟨R, ⟨r1, r2, r3, r4⟩, r5⟩ := hI.2.1
  have cv : ∀ i, cntV z.1 z.2.1 z.2.2.2.1 N i = cntV z.1 z.2.1 z.2.2.2.1 N i := fun _ => rfl
  have e556 : wb_Law_isSound_556 Post (bsum (z.1.2.1 0) N) (bsum (z.1.2.1 4) N) (bsum (z.1.2.1 5) N) (bsum (msl z.1) N) (bsum (gotF z.1) N) 1 z := by
    unfold wb_Law_isSound_556
    exact ⟨fun y => absurd y (by decide), fun _ => o_count (z := z) (i := 6) hG (by omega) (o_count (z := z) (i := 3) hG (by omega) (o_count (z := z) (i := 7) hG (by omega) (o_count (z := z) (i := 8) hG (by omega) ⟨fun _ => o_count (z := z) (i := 5) hG (by omega) ⟨fun _ => o_count (z := z) (i := 7) hG (by omega) ⟨fun _ => o_count (z := z) (i := 9) hG (by omega) ⟨fun _ => o_count (z := z) (i := 10) hG (by omega) ⟨fun _ => o_count (z := z) (i := 11) hG (by omega) ⟨fun _ => h, fun y => absurd rfl y⟩, fun y => absurd rfl y⟩, fun y => absurd r4 y⟩, fun y => absurd r3 y⟩, fun y => absurd rfl y⟩, fun y => absurd r2 y⟩)))⟩
  have main : ∀ S : Int32, S = (if z.1.1 1 = 0 then 0 else 1) → wb_Law_isSound_26 Post 0 0 0 0 0 S z := by
    intro S hS
    unfold wb_Law_isSound_26
    refine ⟨N + 1, s_31 hI hS ⟨5, s_354 hB ?_ 5 0 (by omega) (by omega)⟩ (N + 1) 0 (by omega) (by omega)⟩
    by_cases hu : z.1.1 1 = 0
    · rw [if_pos hu] at hS
      subst hS
      have e6 := r5 hu
      subst e6
      exact ⟨fun _ => o_count (z := z) (i := 3) hG (by omega) (o_count (z := z) (i := 4) hG (by omega) ⟨fun _ => e556, fun y => absurd r1 y⟩), fun y => absurd rfl y⟩
    · rw [if_neg hu] at hS
      subst hS
      obtain ⟨z1, z2, z3, T, z4, z5⟩ := hI.2.2.2 (hI.flag.resolve_left hu)
      have hb : bsum (z.1.2.1 0) N = 0 := bsum_0 (fun m hm => (z2 m (by have := hG.2.1; omega)).1)
      refine ⟨fun y => absurd y (by decide), fun _ => ⟨fun _ => o_count (z := z) (i := 4) hG (by omega) ⟨fun _ => o_count (z := z) (i := 3) hG (by omega) ⟨fun y => absurd y (Int32.not_lt.mpr ?_), fun _ => e556⟩, fun y => absurd z3 y⟩, fun y => absurd hb y⟩⟩
      show 0 ≤ z.1.1 5
      rw [z5]
      exact nI_nn z4
  unfold wp_Law_isSound
  refine o_count (z := z) (i := 2) hG (by omega) ?_
  have e2 : cntV z.1 z.2.1 z.2.2.2.1 N 2 = if z.1.1 1 = 0 then 0 else 1 := rfl
  rw [e2]
  by_cases hu : z.1.1 1 = 0
  · rw [if_pos hu]
    exact ⟨fun y => absurd y (by decide), fun _ => main 0 (by rw [if_pos hu])⟩
  · rw [if_neg hu]
    exact ⟨fun _ => main 1 (by rw [if_neg hu]), fun y => absurd rfl y⟩
