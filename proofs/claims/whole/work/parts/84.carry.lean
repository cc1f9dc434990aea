/-! Carrying out a text, on both sides. -/
theorem cl_sim (t : Nat → Int32) (l : Nat) (hl : l ≤ 100) : ∀ (n i k s : Nat) (c : CS) (g : Nat → Int32) (w N : Nat), CRw c g w N → l + 1 - i < n → i ≤ l + 1 → 2 * k ≤ i → s ≤ k →
    ∃ (s' : Nat) (c' : CS) (g' : Nat → Int32) (w' N' : Nat), s' ≤ 101 ∧ CRw c' g' w' N' ∧ (∀ i, 226 ≤ i → g' i = g i) ∧
    (∀ (o : OS) (Post K : Int32 → OS × CS → Prop), OT t l i o → (∀ o', Post (nI s') (o', c')) → (∀ o', K (nI s') (o', c')) → wl_Ord_carryOutOn_9 Post K n (nI s) (nI k) (o, c)) ∧
    (∀ (r : RS) (Post K : Int32 → RS → Prop), r.1 = g → RT t l i r → (∀ r', r'.1 = g' → r'.2.1 = r.2.1 → r'.2.2.2 0 = r.2.2.2 0 → K (nI s') r') → wl_Mod_carryOut_36 Post K n (nI s) r) := by
  intro n
  induction n with
  | zero => intro i k s c g w N _ h1; omega
  | succ n ih =>
    intro i k s c g w N hc h1 h2 h3 h4
    have nk : ¬ (100 : Int32) ≤ nI k := nI_ge (a := k) (b := 100) (by omega) (by omega)
    by_cases hi : i < l
    · have nl : ¬ nI l ≤ nI i := nI_ge hi (by omega)
      obtain ⟨e, i', L, a, q, s1, s2, s3, s4, s5⟩ := ro_sim t l hl i (by omega)
      rcases s3 with s3 | ⟨s3, s6, s7⟩
      · refine ⟨s, c, g, w, N, by omega, hc, fun _ _ => rfl, fun o Post K hO hp hk => ?_, fun r Post K er hR hk => ?_⟩
        · unfold wl_Ord_carryOutOn_9
          show _ ∧ (_ → (o.1 0 ≤ o.1 1 → _) ∧ (¬ o.1 0 ≤ o.1 1 → _))
          rw [hO.1, hO.2.1]
          exact ⟨fun y => absurd y nk, fun _ => ⟨fun y => absurd y nl, fun _ => s4 _ _ hO (fun o' b1 b2 _ => ⟨fun _ => hp _, fun y => absurd s3 y⟩)⟩⟩
        · unfold wl_Mod_carryOut_36
          rw [hR.1, hR.2.1]
          exact ⟨fun y => absurd y nl, fun _ => s5 _ _ hR (fun r' b1 b2 _ => ⟨fun _ => hk _ (b2.1.trans er) b2.2.1 b2.2.2, fun y => absurd s3 y⟩)⟩
      · have e0 : ¬ e = 0 := by rw [s3]; decide
        rcases do_sim (c := c) (g := g) a q hc s7 with ⟨e2, he2, d1, d2⟩ | ⟨x, c1, g1, w1, N1, hx, hcr, hout, d1, d2⟩
        · refine ⟨s, c, g, w, N, by omega, hc, fun _ _ => rfl, fun o Post K hO hp hk => ?_, fun r Post K er hR hk => ?_⟩
          · unfold wl_Ord_carryOutOn_9
            show _ ∧ (_ → (o.1 0 ≤ o.1 1 → _) ∧ (¬ o.1 0 ≤ o.1 1 → _))
            rw [hO.1, hO.2.1]
            exact ⟨fun y => absurd y nk, fun _ => ⟨fun y => absurd y nl, fun _ => s4 _ _ hO (fun o' b1 b2 b3 => ⟨fun y => absurd y e0, fun _ => d1 _ _ (b3 s3) ⟨fun y => absurd y (Int32.not_le.mpr he2), fun _ => hp _⟩⟩)⟩⟩
          · unfold wl_Mod_carryOut_36
            rw [hR.1, hR.2.1]
            exact ⟨fun y => absurd y nl, fun _ => s5 _ _ hR (fun r' b1 b2 b3 => ⟨fun y => absurd y e0, fun _ => d2 _ _ (b2.1.trans er) (b3 s3) ⟨fun _ => hk _ (b2.1.trans er) b2.2.1 b2.2.2, fun y => absurd rfl y⟩⟩)⟩
        · obtain ⟨s', c', g', w', N', f1, f2, f3, f4, f5⟩ := ih (i' + 1) (k + 1) (s + 1) c1 g1 w1 N1 hcr (by omega) (by omega) (by omega) (by omega)
          refine ⟨s', c', g', w', N', f1, f2, fun j hj => (f3 j hj).trans (hout j hj), fun o Post K hO hp hk => ?_, fun r Post K er hR hk => ?_⟩
          · unfold wl_Ord_carryOutOn_9
            show _ ∧ (_ → (o.1 0 ≤ o.1 1 → _) ∧ (¬ o.1 0 ≤ o.1 1 → _))
            rw [hO.1, hO.2.1]
            refine ⟨fun y => absurd y nk, fun _ => ⟨fun y => absurd y nl, fun _ => s4 _ _ hO (fun o' b1 b2 b3 => ⟨fun y => absurd y e0, fun _ => d1 _ _ (b3 s3) ⟨fun _ => ?_, fun y => absurd hx y⟩⟩)⟩⟩
            intro x7 e7 u8 e8 x9 e9
            rw [e7, e8, e9, nI_1, nI_1]
            exact f4 _ Post K b1.step hp hk
          · unfold wl_Mod_carryOut_36
            rw [hR.1, hR.2.1]
            refine ⟨fun y => absurd y nl, fun _ => s5 _ _ hR (fun r' b1 b2 b3 => ⟨fun y => absurd y e0, fun _ => d2 _ _ (b2.1.trans er) (b3 s3) ⟨fun y => absurd y (by decide), fun _ => ?_⟩⟩)⟩
            intro x12 e12 u13 e13
            rw [e12, e13, nI_1]
            refine f5 _ Post K rfl (RT.step (r := rR r' g1) b1) (fun r'' k1 k2 k3 => hk r'' k1 (k2.trans b2.2.1) (k3.trans ?_))
            show upd r'.2.2.2 2 (r'.2.2.2 2 + 1) 0 = _
            rw [upd_o (by omega)]
            exact b2.2.2
    · have le : nI l ≤ nI i := nI_le (by omega) (by omega)
      refine ⟨s, c, g, w, N, by omega, hc, fun _ _ => rfl, fun o Post K hO hp hk => ?_, fun r Post K er hR hk => ?_⟩
      · unfold wl_Ord_carryOutOn_9
        show _ ∧ (_ → (o.1 0 ≤ o.1 1 → _) ∧ (¬ o.1 0 ≤ o.1 1 → _))
        rw [hO.1, hO.2.1]
        exact ⟨fun y => absurd y nk, fun _ => ⟨fun _ => hk _, fun y => absurd le y⟩⟩
      · unfold wl_Mod_carryOut_36
        rw [hR.1, hR.2.1]
        exact ⟨fun _ => hk _ er rfl rfl, fun y => absurd le y⟩
theorem TRx_text {c : CS} {t1 : Int32} {k1 : CS} {t2 : Int32} {k2 : CS} {his : Nat → Int32} {fr : Nat → SS} {ord o' : OS} {tr : CS} {r r' : RS} {l : Nat} (h : TRx (c, t1, k1, t2, k2, his, fr, ord, tr) r) (hl : l ≤ 100) (a1 : o'.1 0 = nI l) (a2 : ∀ k, k < l → o'.2 k = r.2.1 k) (b1 : r'.2.2.2 1 = nI l) (b2 : RQ r r') : TRx (c, t1, k1, t2, k2, his, fr, o', tr) r' := by
  obtain ⟨h1, ⟨p, n, hp, hn, p1, p2, p3, p4⟩, -⟩ := h
  obtain ⟨q1, q2, q3⟩ := b2
  refine ⟨SR_row h1 (fun i _ => by rw [q1]), ⟨p, n, hp, hn, p1, p2, by rw [q3]; exact p3, fun j hj => SR_row (p4 j hj) (fun i _ => by rw [q1])⟩, ⟨l, hl, a1, b1, fun i hi => by rw [q2]; exact a2 i hi⟩⟩
theorem p_carryOut {z : ZZ} {r : RS} (h : TRx z r) {K : ZZ → RS → Prop} (hK : ∀ z' r', TRx z' r' → K z' r') {mw : (Int32 → RS → Prop) → Prop} (hmw : ∀ Post, wp_Mod_carryOut r Post → mw Post) : wp_Ham_carryOut z (fun x z1 => mw (fun y r1 => (x = y → K z1 r1) ∧ (¬ x = y → False))) := by
  have hT := h
  obtain ⟨c, t1, k1, t2, k2, his, fr, ord, tr⟩ := z
  obtain ⟨hSR, ⟨p, n, hp, hn, h0, h1, hr0, hfr⟩, ⟨l, hl, o1, o2, o3⟩⟩ := h
  have h0 : his 0 = nI p := h0
  have h1 : his 1 = nI n := h1
  have o1 : ord.1 0 = nI l := o1
  have o3 : ∀ k, k < l → r.2.1 k = ord.2 k := fun k hk => (o3 k hk).symm
  have hok := hSR.ok
  obtain ⟨⟨w, N, hc⟩, s2, s3, s4, s5, s6, s7⟩ := hSR
  have hc : CRw c r.1 w N := hc
  have hst : r.1 2 = c.1 1 := hc.1.1.2.2.2.2.2.2.2
  obtain ⟨x, hx, fO, fR⟩ := fa_sim ord.2 l hl
  have keepT : ∀ (o' : OS) (r' : RS), o'.1 0 = nI l → o'.2 = ord.2 → r'.2.2.2 1 = nI l → RQ r r' → TRx (c, t1, k1, t2, k2, his, fr, o', tr) r' := fun o' r' a1 a2 b1 b2 => TRx_text hT hl a1 (fun k hk => by rw [a2]; exact (o3 k hk).symm) b1 b2
  unfold wp_Ham_carryOut
  refine fO _ _ o1 (fun _ _ => rfl) (fun o' a1 a2 => ?_)
  rcases hx with hx | ⟨v, hv, hx⟩
  · subst hx
    refine ⟨fun _ => ⟨fun hu => ?_, fun hu => ?_⟩, fun y => absurd rfl y⟩
    · have hu : c.1 1 = 0 := hu
      unfold wp_His_draft
      refine ⟨by show vp_in (his 0) 6; rw [h0]; exact vp_in_nI hp (by omega), ?_⟩
      intro j1 ej
      have ej : j1 = p := by
        rw [ej]
        show (his 0).toNatClampNeg = p
        rw [h0, nI_clamp (by omega)]
      subst ej
      refine t_copyS (a := fr j1) (s := (c, t1, k1, t2, k2)) hok (fun a' e' => ?_)
      have hSRa : SR a' r.1 := SR_eq (s := (c, t1, k1, t2, k2)) ⟨⟨w, N, hc⟩, s2, s3, s4, s5, s6, s7⟩ e'
      have rc := recF_of r.1 n
      have hc2 : CRw c (recF r.1 n) w N := CRw_row hc (fun i hi => rc.1 i (by omega))
      obtain ⟨s', c', g', w', N', q1, hcr, hout, q4, q5⟩ := cl_sim ord.2 l hl (l + 2) 0 0 0 c (recF r.1 n) w N hc2 (by omega) (by omega) (by omega) (by omega)
      unfold wp_Ord_carryOutOn
      intro u1 eu1
      rw [eu1]
      have fin : ∀ o'' : OS, ∀ u6 : OS, u6 = oS o'' 0 0 → wp_Ham_recorded (c', t1, k1, t2, k2, his, va_up fr j1 a', u6, tr) (nI s') (fun x8 z7 => mw (fun y r1 => (x8 = y → K (z7.1, z7.2.1, z7.2.2.1, z7.2.2.2.1, z7.2.2.2.2.1, z7.2.2.2.2.2.1, z7.2.2.2.2.2.2.1, z7.2.2.2.2.2.2.2.1, z7.2.2.2.2.2.2.2.2) r1) ∧ (¬ x8 = y → False))) := by
        intro o'' u6 e6
        rw [e6]
        unfold wp_Ham_recorded
        refine ⟨fun q => absurd q (sm_nlt (by omega)), fun _ => ?_⟩
        unfold wp_His_keepDraft
        simp only [forall_eq]
        refine hmw _ ?_
        unfold wp_Mod_carryOut
        refine fR r _ o2 o3 (fun r' b1 b2 => ⟨fun _ => ?_, fun y => absurd neg1_lt y⟩)
        refine s_isSettled (fun y => absurd (by rw [← hst, ← y, b2.1]) (show ¬ (1 : Int32) = c.1 1 from fun y => absurd (y.trans hu) (by decide))) (fun _ => ⟨fun _ => ?_, fun y => absurd rfl y⟩)
        refine t_record (n := n) hn (b2.2.2.trans hr0) ?_
        intro u6 e6
        rw [e6]
        have er : recF r'.1 n = recF r.1 n := by rw [b2.1]
        refine ⟨l + 2, q5 _ _ _ (show recF r'.1 n = recF r.1 n from er) ⟨?_, rfl, fun k hk => ?_⟩ (fun r'' k1 k2 k3 => ?_)⟩
        · show upd (upd r'.2.2.2 0 (nI (if n < 5 then n + 1 else 5))) 2 0 1 = _
          rw [upd_o (by omega), upd_o (by omega)]
          exact b1
        · show r'.2.1 k = _
          rw [b2.2.1]
          exact o3 k hk
        · intro u16 e16
          rw [e16]
          have k3' : r''.2.2.2 0 = nI (if n < 5 then n + 1 else 5) := k3
          refine ⟨fun _ => hK _ _ ⟨?_, ?_, ?_⟩, fun y => absurd rfl y⟩
          · have o : ∀ i, 226 ≤ i → i < 680 → r''.1 i = r.1 i := fun i h1 h2 => by
              rw [k1, hout i h1]
              exact rc.1 i h2
            refine ⟨⟨w', N', by show CRw c' r''.1 w' N'; rw [k1]; exact hcr⟩, s2, (o 678 (by omega) (by omega)).trans s3, fun q => CR_row (s4 q) (fun i hi => o (226 + i) (by omega) (by omega)), s5, (o 679 (by omega) (by omega)).trans s6, fun q => CR_row (s7 q) (fun i hi => o (452 + i) (by omega) (by omega))⟩
          · refine HR_keep (n := n) hp hn hfr hSRa ?_ ?_ ?_ (fun o ho => ?_)
            · show his 0 + 1 - (his 0 + 1) / 6 * 6 = _
              rw [h0]
              exact rem6 (by omega)
            · show (if (5 : Int32) < his 1 + 1 then (5 : Int32) else his 1 + 1) = _
              rw [h1]
              exact keep1 hn
            · show upd r''.2.2.2 1 0 0 = _
              rw [upd_o (by omega)]
              exact k3'
            · show r''.1 o = _
              rw [k1]
              exact hout o (by omega)
          · exact ⟨0, by omega, rfl, rfl, fun i hi => by omega⟩
      refine ⟨l + 2, q4 _ _ _ ⟨a1, rfl, fun k hk => ?_⟩ (fun o'' => fin o'') (fun o'' => fin o'')⟩
      show o'.2 k = _
      rw [a2]
    · refine hmw _ ?_
      have hs : c.1 1 = 1 := hc.1.1.2.2.2.2.2.2.1.resolve_left hu
      unfold wp_Mod_carryOut
      refine fR r _ o2 o3 (fun r' b1 b2 => ⟨fun _ => ?_, fun y => absurd neg1_lt y⟩)
      refine s_isSettled (fun _ => ⟨fun y => absurd y (by decide), fun _ => ⟨fun _ => hK _ _ (keepT o' r' a1 a2 b1 b2), fun y => absurd rfl y⟩⟩) (fun y => absurd ?_ y)
      rw [b2.1, hst]
      exact hs
  · have nm : ¬ x = -1 := by rw [hx]; exact sm_nm1 (by omega)
    have nn : ¬ x < 0 := by rw [hx]; exact sm_nlt (by omega)
    refine ⟨fun y => absurd y nm, fun _ => hmw _ ?_⟩
    unfold wp_Mod_carryOut
    exact fR r _ o2 o3 (fun r' b1 b2 => ⟨fun y => absurd y nn, fun _ => ⟨fun _ => hK _ _ (keepT o' r' a1 a2 b1 b2), fun y => absurd rfl y⟩⟩)
