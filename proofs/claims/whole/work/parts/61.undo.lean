/-! Undo on both sides. -/
theorem rem6' {p : Nat} (h : p < 1000) : nI p + 5 - (nI p + 5) / 6 * 6 = nI ((p + 5) % 6) := by
  rw [show (5 : Int32) = nI 5 from rfl, nI_add]
  exact pk_rem (d := 6) (by omega) (by omega) (by omega)
theorem p_undo {z : ZZ} {r : RS} (h : TRx z r) {K : ZZ → RS → Prop} (hK : ∀ z' r', TRx z' r' → K z' r') {mw : (Int32 → RS → Prop) → Prop} (hmw : ∀ Post, wp_Mod_undo r Post → mw Post) : wp_Ham_undo z (fun x z1 => mw (fun y r1 => (x = y → K z1 r1) ∧ (¬ x = y → False))) := by
  have hT := h
  obtain ⟨c, t1, k1, t2, k2, his, fr, ord, tr⟩ := z
  obtain ⟨hSR, ⟨p, n, hp, hn, h0, h1, hr0, hfr⟩, hTX⟩ := h
  have h0 : his 0 = nI p := h0
  have h1 : his 1 = nI n := h1
  unfold wp_Ham_undo wp_His_putBackLatest
  refine ⟨fun q => ?_, fun q => ?_⟩
  · have q : his 1 = 0 := q
    have en : n = 0 := (nI_eq (b := 0) (by omega) (by omega)).mp (h1.symm.trans q)
    subst en
    refine ⟨fun _ => hmw _ ?_, fun y => absurd rfl y⟩
    unfold wp_Mod_undo
    rw [hr0]
    exact ⟨fun _ => ⟨fun _ => hK _ _ hT, fun y => absurd rfl y⟩, fun y => absurd rfl y⟩
  · have q : ¬ his 1 = 0 := q
    have hn0 : 0 < n := by
      rcases Nat.eq_zero_or_pos n with y | y
      · subst y
        exact absurd h1 q
      · exact y
    intro v1 e1 v2 e2
    have a0 : v2 0 = nI ((p + 5) % 6) := by
      rw [e2, e1]
      show his 0 + 5 - (his 0 + 5) / 6 * 6 = _
      rw [h0]
      exact rem6' (by omega)
    have a1 : v2 1 = nI (n - 1) := by
      rw [e2, e1]
      show his 1 - 1 = _
      rw [h1, show (1 : Int32) = nI 1 from rfl, pk_sub (by omega)]
    rw [a0]
    refine ⟨vp_in_nI (by omega) (by omega), ?_⟩
    intro j ej
    rw [nI_clamp (by omega)] at ej
    have hj := hfr (n - 1) (by omega)
    have ei : (p + 6 - n + (n - 1)) % 6 = j := by omega
    rw [ei] at hj
    have hj : SR (fr j) (fun i => r.1 (680 * (1 + (n - 1)) + i)) := hj
    refine t_copyS (a := (c, t1, k1, t2, k2)) (s := fr j) hj.ok (fun a' e' => ?_)
    refine ⟨fun y => absurd y (by decide), fun _ => hmw _ ?_⟩
    unfold wp_Mod_undo
    rw [hr0]
    refine ⟨fun y => absurd y (nI_ne0 hn0 (by omega)), fun _ => ?_⟩
    intro u1 eu
    have s0 : u1.2.2.2 0 = nI (n - 1) := by
      rw [eu]
      show (if 0 = 0 then nI n - 1 else r.2.2.2 0) = _
      rw [if_pos rfl, show (1 : Int32) = nI 1 from rfl, pk_sub (by omega)]
    have s1 : u1.1 = r.1 := by rw [eu]; rfl
    have s2 : u1.2.1 = r.2.1 := by rw [eu]; rfl
    have s3 : u1.2.2.2 1 = r.2.2.2 1 := by rw [eu]; rfl
    rw [s0, lit680, show (0 : Int32) = nI 0 from rfl]
    refine t_copy (n := 680) (by omega) (by omega) (by omega) ?_
    have ex : v2 1 = (rR u1 (cpF u1.1 (680 + 680 * (n - 1)) 0 680)).2.2.2 0 := a1.trans s0.symm
    refine ⟨fun _ => hK _ _ ⟨SR_eq (s := fr j) (SR_row hj (fun i hi => ?_)) e', ⟨(p + 5) % 6, n - 1, by omega, by omega, a0, a1, s0, fun j' hj' => ?_⟩, ?_⟩, fun y => absurd ex y⟩
    · show cpF u1.1 (680 + 680 * (n - 1)) 0 680 i = _
      unfold cpF
      rw [if_pos (by omega), s1, show 680 + 680 * (n - 1) + (i - 0) = 680 * (1 + (n - 1)) + i by omega]
    · have old := hfr j' (by omega)
      have ej' : ((p + 5) % 6 + 6 - (n - 1) + j') % 6 = (p + 6 - n + j') % 6 := by omega
      rw [ej']
      have fe : ∀ m, va_up fr j (fr j) m = fr m := by
        intro m
        by_cases y : m = j
        · rw [y, va_up_self]
        · exact va_up_ne fr _ y
      show SR (va_up fr j (fr j) ((p + 6 - n + j') % 6)) _
      rw [fe]
      refine SR_row old (fun i hi => ?_)
      show cpF u1.1 (680 + 680 * (n - 1)) 0 680 (680 * (1 + j') + i) = _
      unfold cpF
      rw [if_neg (by omega), s1]
    · obtain ⟨l, l1, l2, l3, l4⟩ := hTX
      refine ⟨l, l1, l2, ?_, fun i hi => ?_⟩
      · show u1.2.2.2 1 = _
        rw [s3]
        exact l3
      · show ord.2 i = u1.2.1 i
        rw [s2]
        exact l4 i hi
