/-! The club is sound. -/
def latV (g : Int64) : Nat → Int32
  | 0 => -9
  | n + 1 => if gbit g n = true then nI n else latV g n
theorem isg_ct (c : CS) (j i : Nat) : nI (fb_ct (gbit (c.2.2 j)) i) + isgV c j i = nI (fb_ct (gbit (c.2.2 j)) (i + 1)) := by
  rw [fb_ct_succ]
  unfold isgV
  by_cases h : gbit (c.2.2 j) i = true
  · rw [if_pos h, if_pos h, nI_1]
  · rw [if_neg h, if_neg h]
    exact Int32.add_zero _
theorem s_69 {z : ZZ} {w N j : Nat} {a1 a2 a3 a4 a5 a6 a8 a9 : Int32} {Post : Int32 → ZZ → Prop} {K : Int32 → Int32 → Int32 → Int32 → Int32 → Int32 → Int32 → Int32 → Int32 → Int32 → Int32 → ZZ → Prop} (hG : InvG z.1 w N) (hj : j < N) (h : K a1 a2 a3 a4 a5 a6 (nI j) a8 a9 (nI (fb_ct (gbit (z.1.2.2 j)) 61)) (latV (z.1.2.2 j) 61) z) : ∀ n i, i ≤ 61 → 61 - i < n → wl_Law_isSound_69 Post K n a1 a2 a3 a4 a5 a6 (nI j) a8 a9 (nI (fb_ct (gbit (z.1.2.2 j)) i)) (latV (z.1.2.2 j) i) (nI i) z := by
  intro n
  induction n with
  | zero => intro i h1 h2; omega
  | succ n ih =>
    intro i h1 h2
    unfold wl_Law_isSound_69
    refine ⟨fun q => ?_, fun q => ?_⟩
    · have := ge_of (L := 61) (by omega) h1 q
      subst this
      exact h
    · have hi := lt_of (L := 61) (by omega) h1 q
      have nx := ih (i + 1) (by omega) (by omega)
      have el : latV (z.1.2.2 j) (i + 1) = if gbit (z.1.2.2 j) i = true then nI i else latV (z.1.2.2 j) i := rfl
      refine o_isGood (z := z) hG hj (by omega) ?_
      intro x ex
      refine o_isGood (z := z) hG hj (by omega) ?_
      rw [ex, isg_ct]
      unfold isgV
      by_cases hb : gbit (z.1.2.2 j) i = true
      · rw [el, if_pos hb] at nx
        rw [if_pos hb]
        refine ⟨fun _ y ey => ?_, fun y => absurd rfl y⟩
        rw [ey, nI_1]
        exact nx
      · rw [el, if_neg hb] at nx
        rw [if_neg hb]
        refine ⟨fun y => absurd y (by decide), fun _ y ey => ?_⟩
        rw [ey, nI_1]
        exact nx
theorem fb_ct_tail {p : Nat → Bool} {N : Nat} : ∀ n, N ≤ n → (∀ m, N ≤ m → m < n → p m = false) → fb_ct p n = fb_ct p N := by
  intro n
  induction n with
  | zero => intro h _; rw [show N = 0 by omega]
  | succ n ih =>
    intro h hp
    by_cases e : N = n + 1
    · rw [e]
    · rw [fb_ct_succ, ih (by omega) (fun m h1 h2 => hp m h1 (by omega)), hp n (by omega) (by omega)]
      rfl
theorem fb_ct_mono {p : Nat → Bool} {a b : Nat} (h : a ≤ b) : fb_ct p a ≤ fb_ct p b := by
  induction b with
  | zero => rw [show a = 0 by omega]; exact Nat.le_refl _
  | succ b ih =>
    by_cases e : a = b + 1
    · rw [e]; exact Nat.le_refl _
    · have := ih (by omega)
      rw [fb_ct_succ]
      omega
theorem run_le (g : Int64) : ∀ n, run g n ≤ fb_ct (gbit g) n := by
  intro n
  induction n with
  | zero => exact Nat.le_refl _
  | succ n ih =>
    have e : run g (n + 1) = if gbit g n = true then run g n + 1 else 0 := rfl
    rw [e, fb_ct_succ]
    split <;> omega
theorem rgw_le {g : Int64} {w : Nat} (hw : w ≤ 60) : rgw g w ≤ fb_ct (gbit g) 61 := by
  unfold rgw
  split
  · exact Nat.le_trans (run_le g (w + 1)) (fb_ct_mono (by omega))
  · exact Nat.le_trans (run_le g w) (fb_ct_mono (by omega))
theorem latV_9 {g : Int64} : ∀ n, n ≤ 64 → (∀ i, i < 64 → gbit g i = false) → latV g n = -9 := by
  intro n
  induction n with
  | zero => intro _ _; rfl
  | succ n ih =>
    intro h hz
    have el : latV g (n + 1) = if gbit g n = true then nI n else latV g n := rfl
    rw [el, hz n (by omega)]
    exact ih (by omega) hz
theorem latV_q {g : Int64} {q : Nat} (hq : gbit g q = true) : ∀ n, n ≤ 64 → q < n → (∀ i, q < i → i < 64 → gbit g i = false) → latV g n = nI q := by
  intro n
  induction n with
  | zero => intro _ h; omega
  | succ n ih =>
    intro h h1 hz
    have el : latV g (n + 1) = if gbit g n = true then nI n else latV g n := rfl
    rw [el]
    by_cases e : q = n
    · rw [← e, if_pos hq]
    · rw [hz n (by omega) (by omega)]
      exact ih (by omega) (by omega) hz
theorem lat_eq {g : Int64} {l : Int32} {w : Nat} (h : Lat g l w) (hw : w ≤ 60) : latV g 61 = l ∧ fb_ct (gbit g) 64 = fb_ct (gbit g) 61 ∧ ¬ nI w < l := by
  refine ⟨?_, fb_ct_tail 64 (by omega) (fun m h1 h2 => Lat_up h (by omega) h2), ?_⟩
  · rcases h with ⟨z1, z2⟩ | ⟨q, z1, z2, z3, z4⟩
    · rw [z1]
      exact latV_9 61 (by omega) z2
    · rw [z2]
      exact latV_q z3 61 (by omega) (by omega) z4
  · rcases h with ⟨z1, z2⟩ | ⟨q, z1, z2, z3, z4⟩
    · rw [z1]
      intro y
      have := Int32.lt_iff_toInt_lt.mp y
      rw [nI_toInt (by omega), show (-9 : Int32).toInt = -9 from rfl] at this
      omega
    · rw [z2]
      exact Int32.not_lt.mpr (nI_le z1 (by omega))
theorem keptV_eq {c : CS} {j k : Nat} (hk : k < 4) (h : c.2.1 9 j = nI k) : keptV c j = if c.2.1 10 j = 0 then 1 else 0 := by
  unfold keptV
  rw [h, if_neg (fun z => neg9_ne hk z.symm)]
/-- a member's choice and place fit -/
theorem s_266 {z : ZZ} {w N j : Nat} {a1 a2 a3 a4 a5 a6 s0 s1 : Int32} {Post : Int32 → ZZ → Prop} {R : Int32 → Int32 → Int32 → Int32 → Int32 → Int32 → Int32 → ZZ → Prop} {K : Int32 → Int32 → Int32 → Int32 → Int32 → Int32 → ZZ → Prop} (hB : Base z.1 w N) (hj : j < N) (hs : s1 = s0) (h : R a1 a2 a3 a4 a5 a6 (nI (j + 1)) z) : wb_Law_isSound_266 Post R K a1 a2 a3 a4 a5 a6 (nI j) (z.1.2.1 9 j) (z.1.2.1 10 j) s0 s1 z := by
  have hG := hB.2.1
  have hN := hG.2.1
  have hj12 : j < 12 := by omega
  have nx : ∀ x : Int32, x = nI j + 1 → R a1 a2 a3 a4 a5 a6 x z := fun x ex => by
    rw [ex, nI_1]
    exact h
  unfold wb_Law_isSound_266
  refine ⟨fun _ => ?_, fun q => absurd hs q⟩
  rcases (hB.2.2.1 j hj12).2.2.2.2.1 with ⟨c9, c10⟩ | ⟨k, hk, c9⟩
  · rw [c9, c10]
    refine ⟨fun q => absurd q (by decide), fun _ => ⟨fun _ => o_member (z := z) (i := 3) hG hj (by omega) ?_, fun q => absurd rfl q⟩⟩
    have e : memV z.1 w j 3 = 0 := by
      show keptV z.1 j = 0
      unfold keptV
      rw [if_pos c9]
    rw [e]
    exact ⟨fun _ => nx, fun q => absurd rfl q⟩
  · have hkp := keptV_eq hk c9
    obtain ⟨n, n1, n2, n3, n4⟩ := (hB.2.2.2.2 k hk).2
    refine ⟨fun _ => ⟨fun q => o_member (z := z) (i := 3) hG hj (by omega) ?_, fun q => o_member (z := z) (i := 3) hG hj (by omega) ?_⟩, fun q => absurd (by rw [c9]; exact nI_nn (by omega)) q⟩
    · have e : memV z.1 w j 3 = 1 := by
        show keptV z.1 j = 1
        rw [hkp, if_pos q]
      rw [e]
      refine ⟨fun _ => ⟨fun _ => nx, fun y => absurd (by rw [q]; decide) y⟩, fun y => absurd rfl y⟩
    · have e : memV z.1 w j 3 = 0 := by
        show keptV z.1 j = 0
        rw [hkp, if_neg q]
      rw [e]
      refine ⟨fun y => absurd y (by decide), fun _ => ⟨fun _ => nx, fun _ => ?_⟩⟩
      rcases n3 j hj12 c9 with y | ⟨i, i1, i2⟩
      · exact absurd y q
      · rw [c9, i2, nI_m1]
        refine o_waiting (z := z) hk (by omega) ?_
        have e2 : waitV z.1 k i = nI j := waitV_m hj12 ⟨c9, by rw [i2]; exact le0_pos (by omega), by rw [i2, nI_m1]⟩ (fun m' hm' hp => by
          have := sub1 hp.2.2
          rw [nI_1] at this
          rcases n4 m' j (by omega) hj12 hp.1 c9 (this.trans i2.symm) with y | y
          · rw [this] at y
            exact absurd y (ne0 (by omega))
          · omega)
        rw [e2]
        exact ⟨fun _ => nx, fun y => absurd rfl y⟩
theorem s_31 {z : ZZ} {w N : Nat} {S : Int32} {Post : Int32 → ZZ → Prop} {K : Int32 → Int32 → Int32 → Int32 → Int32 → Int32 → ZZ → Prop} (hI : Inv z.1 w N) (hS : S = if z.1.1 1 = 0 then 0 else 1) (h : K (bsum (z.1.2.1 0) N) (bsum (z.1.2.1 4) N) (bsum (z.1.2.1 5) N) (bsum (msl z.1) N) (bsum (gotF z.1) N) S z) : ∀ n i, i ≤ N → N - i < n → wl_Law_isSound_31 Post K n (bsum (z.1.2.1 0) i) (bsum (z.1.2.1 4) i) (bsum (z.1.2.1 5) i) (bsum (msl z.1) i) (bsum (gotF z.1) i) S (nI i) z := by
  have hB := hI.1
  have hG := hB.2.1
  have hN := hG.2.1
  have hw := hG.1
  intro n
  induction n with
  | zero => intro i h1 h2; omega
  | succ n ih =>
    intro i h1 h2
    unfold wl_Law_isSound_31
    refine o_count (z := z) (i := 1) hG (by omega) ?_
    have e4 : cntV z.1 z.2.1 z.2.2.2.1 N 1 = nI N := hG.2.2.2.1
    rw [e4]
    refine ⟨fun q => ?_, fun q => ?_⟩
    · have := ge_of (L := N) (by omega) h1 q
      subst this
      exact h
    · have hi := lt_of (L := N) (by omega) h1 q
      have hi12 : i < 12 := by omega
      have nx := ih (i + 1) (by omega) (by omega)
      obtain ⟨⟨m1, m2⟩, m3, m4, m5, m6, m7, m8⟩ := hB.2.2.1 i hi12
      obtain ⟨l1, l2, l3⟩ := lat_eq m8 hw
      have hwk := wk5_le (g := z.1.2.2 i) hw
      refine o_member (z := z) (i := 2) hG hi (by omega) (o_member (z := z) (i := 4) hG hi (by omega) ⟨62, s_69 hG hi ?_ 62 0 (by omega) (by omega)⟩)
      refine o_member (z := z) (i := 0) hG hi (by omega) ?_
      intro x ex
      refine o_member (z := z) (i := 9) hG hi (by omega) ?_
      intro y ey
      refine o_member (z := z) (i := 5) hG hi (by omega) ?_
      intro v ev
      rw [ex, ey, ev]
      refine o_member (z := z) (i := 1) hG hi (by omega) ?_
      -- behind the sums
      have tail : ∀ (s0 : Int32) (P : Int32 → ZZ → Prop), wb_Law_isSound_186 P (wl_Law_isSound_31 P K n) K (bsum (z.1.2.1 0) i + z.1.2.1 0 i) (bsum (z.1.2.1 4) i + z.1.2.1 4 i) (bsum (z.1.2.1 5) i + z.1.2.1 5 i) s0 S (nI i) (z.1.2.1 9 i) (z.1.2.1 10 i) (nI (fb_ct (gbit (z.1.2.2 i)) 61)) (latV (z.1.2.2 i) 61) (gotF z.1 i) (bsum (gotF z.1) i) z = wb_Law_isSound_186 P (wl_Law_isSound_31 P K n) K (bsum (z.1.2.1 0) (i + 1)) (bsum (z.1.2.1 4) (i + 1)) (bsum (z.1.2.1 5) (i + 1)) s0 S (nI i) (z.1.2.1 9 i) (z.1.2.1 10 i) (nI (fb_ct (gbit (z.1.2.2 i)) 61)) (latV (z.1.2.2 i) 61) (gotF z.1 i) (bsum (gotF z.1) i) z := fun _ _ => rfl
      have fin : wb_Law_isSound_186 Post (wl_Law_isSound_31 Post K n) K (bsum (z.1.2.1 0) (i + 1)) (bsum (z.1.2.1 4) (i + 1)) (bsum (z.1.2.1 5) (i + 1)) (bsum (msl z.1) (i + 1)) S (nI i) (z.1.2.1 9 i) (z.1.2.1 10 i) (nI (fb_ct (gbit (z.1.2.2 i)) 61)) (latV (z.1.2.2 i) 61) (gotF z.1 i) (bsum (gotF z.1) i) z := by
        unfold wb_Law_isSound_186
        intro g eg
        refine o_member (z := z) (i := 6) hG hi (by omega) ⟨fun _ => o_member (z := z) (i := 8) hG hi (by omega) ⟨fun _ => o_count (z := z) (i := 0) hG (by omega) ⟨fun q => absurd ?_ l3, fun _ => o_member (z := z) (i := 7) hG hi (by omega) ⟨fun q => absurd q (Int32.not_lt.mpr (nI_le (rgw_le hw) (by have := fb_ct_le (gbit (z.1.2.2 i)) 61; omega))), fun _ => o_member (z := z) (i := 0) hG hi (by omega) ⟨fun q => absurd q (Int32.not_lt.mpr ?_), fun _ => o_member (z := z) (i := 1) hG hi (by omega) ?_⟩⟩⟩, fun q => absurd l1 q⟩, fun q => absurd (by rw [← l2]; rfl) q⟩
        · have e0 : cntV z.1 z.2.1 z.2.2.2.1 N 0 = nI w := hG.2.2.1
          rw [e0, l1] at q
          exact q
        · show 0 ≤ z.1.2.1 0 i
          rw [m1]
          exact nI_nn (by omega)
        · have e1 : memV z.1 w i 1 = z.1.2.1 1 i := rfl
          rw [e1, eg]
          by_cases hu : z.1.1 1 = 0
          · rw [if_pos hu] at hS
            subst hS
            have hne := ((hI.2.2.1 hu).1 i hi12).2
            exact ⟨fun q => absurd q hne, fun _ => s_266 hB hi rfl nx⟩
          · rw [if_neg hu] at hS
            subst hS
            have h1' : z.1.1 1 = 1 := hI.flag.resolve_left hu
            have he := (hI.2.2.2 h1').1 i hi
            exact ⟨fun _ => s_266 hB hi rfl nx, fun q => absurd he q⟩
      have em : bsum (msl z.1) (i + 1) = bsum (msl z.1) i + msl z.1 i := rfl
      have k165 : ∀ s0 : Int32, bsum (msl z.1) i + s0 = bsum (msl z.1) (i + 1) → wb_Law_isSound_165 Post (wl_Law_isSound_31 Post K n) K (bsum (z.1.2.1 0) (i + 1)) (bsum (z.1.2.1 4) (i + 1)) (bsum (z.1.2.1 5) (i + 1)) (bsum (gotF z.1) i) S (nI i) (z.1.2.1 9 i) (z.1.2.1 10 i) (nI (fb_ct (gbit (z.1.2.2 i)) 61)) (latV (z.1.2.2 i) 61) s0 (bsum (msl z.1) i) z := by
        intro s0 es
        unfold wb_Law_isSound_165
        intro g eg
        rw [eg, es]
        refine o_member (z := z) (i := 10) hG hi (by omega) ?_
        have e10 : memV z.1 w i 10 = z.1.2.1 11 i := rfl
        rw [e10]
        unfold gotF at fin
        refine ⟨fun q => ?_, fun q => ?_⟩
        · rw [if_pos q] at fin
          exact fin
        · rw [if_neg q] at fin
          exact fin
      have e1 : memV z.1 w i 1 = z.1.2.1 1 i := rfl
      rw [e1]
      refine ⟨fun q => k165 1 ?_, fun q => k165 0 ?_⟩
      · rw [em]
        unfold msl
        rw [if_pos q]
      · rw [em]
        unfold msl
        rw [if_neg q]
