/-! Looking: the counts. -/
theorem p_count {z : ZZ} {r : RS} (h : TRx z r) {K : ZZ → RS → Prop} (hK : ∀ z' r', TRx z' r' → K z' r') {p1 : Int32} {mw : (Int32 → RS → Prop) → Prop} (hmw : ∀ Post, wp_Mod_count r p1 Post → mw Post) : wp_Ham_count z p1 (fun x z1 => mw (fun y r1 => (x = y → K z1 r1) ∧ (¬ x = y → False))) := by
  obtain ⟨w, N, hc⟩ := h.cr
  have hN := hc.1.1.2.1
  have hc4 : z.1.1 4 = nI N := hc.1.1.2.2.2.2.1
  have hr1 : r.1 1 = nI N := hc.1.1.2.2.2.2.2.1
  have ok : ∀ e e' : Int32, e = e' → (e = e' → K z r) ∧ (¬ e = e' → False) := fun e e' q => ⟨fun _ => hK _ _ h, fun y => absurd q y⟩
  have fin : ∀ e : Int32, wp_Mod_count r p1 (fun y r1 => (e = y → K z r1) ∧ (¬ e = y → False)) → mw (fun y r1 => (e = y → K z r1) ∧ (¬ e = y → False)) := fun e q => hmw _ q
  obtain ⟨⟨a1, a2, a3, a4, a5, a6, a7⟩, a8⟩ := hc.2.1
  have a1 : z.1.1 5 + 0 = r.1 3 := a1
  have a3 : z.1.1 8 = r.1 6 + 0 := a3
  have a5 : z.1.1 2 = r.1 8 + 0 := a5
  rw [Int32.add_zero] at a1 a3 a5
  have g0 : z.1.1 0 = r.1 0 := hc.1.1.2.2.1.trans hc.1.1.2.2.2.1.symm
  have g1 : z.1.1 4 = r.1 1 := hc4.trans hr1.symm
  have g2 : r.1 2 = z.1.1 1 := hc.1.1.2.2.2.2.2.2.2
  have g01 := hc.1.1.2.2.2.2.2.2.1
  have b0 : bsum (z.1.2.1 0) N = bsum (fun m => mb r.1 m 0) N := bsum_cong N (fun m hm => (hc.1.2.1 m hm).1.symm)
  have b5 : bsum (z.1.2.1 5) N = bsum (fun m => mb r.1 m 5) N := bsum_cong N (fun m hm => (hc.1.2.1 m hm).2.2.2.2.2.1.symm)
  have b1 : bsum (fun m => if z.1.2.1 1 m = 1 then (1 : Int32) else 0) N = bsum (fun m => if mb r.1 m 1 = 1 then (1 : Int32) else 0) N := bsum_cong N (fun m hm => by
    show (if z.1.2.1 1 m = 1 then (1 : Int32) else 0) = (if mb r.1 m 1 = 1 then (1 : Int32) else 0)
    rw [(hc.1.2.1 m hm).2.1])
  have hcopy := h
  obtain ⟨⟨-, s2, s3, -, s5, s6, -⟩, ⟨p, n, -, -, -, hn1, hn2, -⟩, ⟨l, -, l1, l2, -⟩⟩ := hcopy
  unfold wp_Ham_count
  refine ⟨fun x => ?_, fun x => ?_, fun x => ?_, fun x13 x14 x15 => ⟨fun x => ?_, fun x => ?_, fun x => ?_, fun x => ?_, fun x => ?_, fun x => ?_, fun x => ?_, fun x => ?_, fun x => ?_, fun x => ?_, fun x => ?_, fun x => ?_, fun x => ?_, fun x0 x1 x2 x3 x4 x5 x6 x7 x8 x9 x10 x11 x12 => ?_⟩⟩
  · subst x
    have e0 : ∀ e : Int32, e = r.1 678 + r.1 679 → mw (fun y r1 => (e = y → K z r1) ∧ (¬ e = y → False)) := fun e ee => fin e (by
      unfold wp_Mod_count
      exact ⟨fun y => absurd y (by decide), fun y => absurd y (by decide), fun y => absurd y (by decide), fun y => absurd y (by decide), fun y => absurd y (by decide), fun y => absurd y (by decide), fun y => absurd y (by decide), fun y => absurd y (by decide), fun y => absurd y (by decide), fun y => absurd y (by decide), fun y => absurd y (by decide), fun y => absurd y (by decide), fun y => absurd y (by decide), fun _ => ok _ _ ee, fun y => absurd y (by decide), fun y => absurd y (by decide), fun y0 y1 y2 y3 y4 y5 y6 y7 y8 y9 y10 y11 y12 y13 y14 y15 => absurd rfl y13⟩)
    have s3 : r.1 678 = z.2.1 := s3
    have s6 : r.1 679 = z.2.2.2.1 := s6
    unfold wp_Sta_snapshots
    refine ⟨fun u1 => ⟨fun u2 => e0 _ ?_, fun u2 => e0 _ ?_⟩, fun u1 => ⟨fun u2 => e0 _ ?_, fun u2 => e0 _ ?_⟩⟩
    · rw [s3, s6]
      have u1 : z.2.1 = 0 := u1
      have u2 : z.2.2.2.1 = 0 := u2
      rw [u1, u2]
    · rw [s3, s6]
      have u1 : z.2.1 = 0 := u1
      have u2 : z.2.2.2.1 = 1 := s5.resolve_left u2
      rw [u1, u2]
    · rw [s3, s6]
      have u1 : z.2.1 = 1 := s2.resolve_left u1
      have u2 : z.2.2.2.1 = 0 := u2
      rw [u1, u2]
    · rw [s3, s6]
      have u1 : z.2.1 = 1 := s2.resolve_left u1
      have u2 : z.2.2.2.1 = 1 := s5.resolve_left u2
      rw [u1, u2]
  · subst x
    refine fin _ ?_
    unfold wp_Mod_count
    exact ⟨fun y => absurd y (by decide), fun y => absurd y (by decide), fun y => absurd y (by decide), fun y => absurd y (by decide), fun y => absurd y (by decide), fun y => absurd y (by decide), fun y => absurd y (by decide), fun y => absurd y (by decide), fun y => absurd y (by decide), fun y => absurd y (by decide), fun y => absurd y (by decide), fun y => absurd y (by decide), fun y => absurd y (by decide), fun y => absurd y (by decide), fun _ => ok _ _ (hn1.trans hn2.symm), fun y => absurd y (by decide), fun y0 y1 y2 y3 y4 y5 y6 y7 y8 y9 y10 y11 y12 y13 y14 y15 => absurd rfl y14⟩
  · subst x
    refine fin _ ?_
    unfold wp_Mod_count
    exact ⟨fun y => absurd y (by decide), fun y => absurd y (by decide), fun y => absurd y (by decide), fun y => absurd y (by decide), fun y => absurd y (by decide), fun y => absurd y (by decide), fun y => absurd y (by decide), fun y => absurd y (by decide), fun y => absurd y (by decide), fun y => absurd y (by decide), fun y => absurd y (by decide), fun y => absurd y (by decide), fun y => absurd y (by decide), fun y => absurd y (by decide), fun y => absurd y (by decide), fun _ => ok _ _ (l1.trans l2.symm), fun y0 y1 y2 y3 y4 y5 y6 y7 y8 y9 y10 y11 y12 y13 y14 y15 => absurd rfl y15⟩
  · subst x
    refine fin _ ?_
    unfold wp_Mod_count
    exact ⟨fun _ => ⟨show vp_in (nI 0) 4306 from vp_in_nI (by omega) (by omega), ok _ _ (g0)⟩, fun y => absurd y (by decide), fun y => absurd y (by decide), fun y => absurd y (by decide), fun y => absurd y (by decide), fun y => absurd y (by decide), fun y => absurd y (by decide), fun y => absurd y (by decide), fun y => absurd y (by decide), fun y => absurd y (by decide), fun y => absurd y (by decide), fun y => absurd y (by decide), fun y => absurd y (by decide), fun y => absurd y (by decide), fun y => absurd y (by decide), fun y => absurd y (by decide), fun y0 y1 y2 y3 y4 y5 y6 y7 y8 y9 y10 y11 y12 y13 y14 y15 => absurd rfl y0⟩
  · subst x
    refine fin _ ?_
    unfold wp_Mod_count
    exact ⟨fun y => absurd y (by decide), fun _ => ⟨show vp_in (nI 1) 4306 from vp_in_nI (by omega) (by omega), ok _ _ (g1)⟩, fun y => absurd y (by decide), fun y => absurd y (by decide), fun y => absurd y (by decide), fun y => absurd y (by decide), fun y => absurd y (by decide), fun y => absurd y (by decide), fun y => absurd y (by decide), fun y => absurd y (by decide), fun y => absurd y (by decide), fun y => absurd y (by decide), fun y => absurd y (by decide), fun y => absurd y (by decide), fun y => absurd y (by decide), fun y => absurd y (by decide), fun y0 y1 y2 y3 y4 y5 y6 y7 y8 y9 y10 y11 y12 y13 y14 y15 => absurd rfl y1⟩
  · subst x
    have e0 : ∀ e : Int32, e = r.1 2 → mw (fun y r1 => (e = y → K z r1) ∧ (¬ e = y → False)) := fun e ee => fin e (by
      unfold wp_Mod_count
      exact ⟨fun y => absurd y (by decide), fun y => absurd y (by decide), fun _ => ⟨show vp_in (nI 2) 4306 from vp_in_nI (by omega) (by omega), ok _ _ (ee)⟩, fun y => absurd y (by decide), fun y => absurd y (by decide), fun y => absurd y (by decide), fun y => absurd y (by decide), fun y => absurd y (by decide), fun y => absurd y (by decide), fun y => absurd y (by decide), fun y => absurd y (by decide), fun y => absurd y (by decide), fun y => absurd y (by decide), fun y => absurd y (by decide), fun y => absurd y (by decide), fun y => absurd y (by decide), fun y0 y1 y2 y3 y4 y5 y6 y7 y8 y9 y10 y11 y12 y13 y14 y15 => absurd rfl y2⟩)
    exact ⟨fun u => e0 0 (by rw [g2]; exact u.symm), fun u => e0 1 (by rw [g2]; exact (g01.resolve_left u).symm)⟩
  · subst x
    refine fin _ ?_
    unfold wp_Mod_count
    exact ⟨fun y => absurd y (by decide), fun y => absurd y (by decide), fun y => absurd y (by decide), fun _ => ⟨show vp_in (nI 3) 4306 from vp_in_nI (by omega) (by omega), ok _ _ (a1)⟩, fun y => absurd y (by decide), fun y => absurd y (by decide), fun y => absurd y (by decide), fun y => absurd y (by decide), fun y => absurd y (by decide), fun y => absurd y (by decide), fun y => absurd y (by decide), fun y => absurd y (by decide), fun y => absurd y (by decide), fun y => absurd y (by decide), fun y => absurd y (by decide), fun y => absurd y (by decide), fun y0 y1 y2 y3 y4 y5 y6 y7 y8 y9 y10 y11 y12 y13 y14 y15 => absurd rfl y3⟩
  · subst x
    refine fin _ ?_
    unfold wp_Mod_count
    exact ⟨fun y => absurd y (by decide), fun y => absurd y (by decide), fun y => absurd y (by decide), fun y => absurd y (by decide), fun _ => ⟨show vp_in (nI 4) 4306 from vp_in_nI (by omega) (by omega), ok _ _ (a8)⟩, fun y => absurd y (by decide), fun y => absurd y (by decide), fun y => absurd y (by decide), fun y => absurd y (by decide), fun y => absurd y (by decide), fun y => absurd y (by decide), fun y => absurd y (by decide), fun y => absurd y (by decide), fun y => absurd y (by decide), fun y => absurd y (by decide), fun y => absurd y (by decide), fun y0 y1 y2 y3 y4 y5 y6 y7 y8 y9 y10 y11 y12 y13 y14 y15 => absurd rfl y4⟩
  · subst x
    refine k_allStamps hc4 hN (fin _ ?_)
    unfold wp_Mod_count
    exact ⟨fun y => absurd y (by decide), fun y => absurd y (by decide), fun y => absurd y (by decide), fun y => absurd y (by decide), fun y => absurd y (by decide), fun _ => t_sumOf (v := 0) hr1 hN (by omega) (ok _ _ b0), fun y => absurd y (by decide), fun y => absurd y (by decide), fun y => absurd y (by decide), fun y => absurd y (by decide), fun y => absurd y (by decide), fun y => absurd y (by decide), fun y => absurd y (by decide), fun y => absurd y (by decide), fun y => absurd y (by decide), fun y => absurd y (by decide), fun y0 y1 y2 y3 y4 y5 y6 y7 y8 y9 y10 y11 y12 y13 y14 y15 => absurd rfl y5⟩
  · subst x
    refine fin _ ?_
    unfold wp_Mod_count
    exact ⟨fun y => absurd y (by decide), fun y => absurd y (by decide), fun y => absurd y (by decide), fun y => absurd y (by decide), fun y => absurd y (by decide), fun y => absurd y (by decide), fun _ => ⟨show vp_in (nI 5) 4306 from vp_in_nI (by omega) (by omega), ok _ _ (a2)⟩, fun y => absurd y (by decide), fun y => absurd y (by decide), fun y => absurd y (by decide), fun y => absurd y (by decide), fun y => absurd y (by decide), fun y => absurd y (by decide), fun y => absurd y (by decide), fun y => absurd y (by decide), fun y => absurd y (by decide), fun y0 y1 y2 y3 y4 y5 y6 y7 y8 y9 y10 y11 y12 y13 y14 y15 => absurd rfl y6⟩
  · subst x
    refine fin _ ?_
    unfold wp_Mod_count
    exact ⟨fun y => absurd y (by decide), fun y => absurd y (by decide), fun y => absurd y (by decide), fun y => absurd y (by decide), fun y => absurd y (by decide), fun y => absurd y (by decide), fun y => absurd y (by decide), fun _ => ⟨show vp_in (nI 6) 4306 from vp_in_nI (by omega) (by omega), ok _ _ (a3)⟩, fun y => absurd y (by decide), fun y => absurd y (by decide), fun y => absurd y (by decide), fun y => absurd y (by decide), fun y => absurd y (by decide), fun y => absurd y (by decide), fun y => absurd y (by decide), fun y => absurd y (by decide), fun y0 y1 y2 y3 y4 y5 y6 y7 y8 y9 y10 y11 y12 y13 y14 y15 => absurd rfl y7⟩
  · subst x
    refine fin _ ?_
    unfold wp_Mod_count
    exact ⟨fun y => absurd y (by decide), fun y => absurd y (by decide), fun y => absurd y (by decide), fun y => absurd y (by decide), fun y => absurd y (by decide), fun y => absurd y (by decide), fun y => absurd y (by decide), fun y => absurd y (by decide), fun _ => ⟨show vp_in (nI 7) 4306 from vp_in_nI (by omega) (by omega), ok _ _ (a4)⟩, fun y => absurd y (by decide), fun y => absurd y (by decide), fun y => absurd y (by decide), fun y => absurd y (by decide), fun y => absurd y (by decide), fun y => absurd y (by decide), fun y => absurd y (by decide), fun y0 y1 y2 y3 y4 y5 y6 y7 y8 y9 y10 y11 y12 y13 y14 y15 => absurd rfl y8⟩
  · subst x
    refine fin _ ?_
    unfold wp_Mod_count
    exact ⟨fun y => absurd y (by decide), fun y => absurd y (by decide), fun y => absurd y (by decide), fun y => absurd y (by decide), fun y => absurd y (by decide), fun y => absurd y (by decide), fun y => absurd y (by decide), fun y => absurd y (by decide), fun y => absurd y (by decide), fun _ => ⟨show vp_in (nI 8) 4306 from vp_in_nI (by omega) (by omega), ok _ _ (a5)⟩, fun y => absurd y (by decide), fun y => absurd y (by decide), fun y => absurd y (by decide), fun y => absurd y (by decide), fun y => absurd y (by decide), fun y => absurd y (by decide), fun y0 y1 y2 y3 y4 y5 y6 y7 y8 y9 y10 y11 y12 y13 y14 y15 => absurd rfl y9⟩
  · subst x
    refine k_mislaid hc4 hN (fin _ ?_)
    unfold wp_Mod_count
    exact ⟨fun y => absurd y (by decide), fun y => absurd y (by decide), fun y => absurd y (by decide), fun y => absurd y (by decide), fun y => absurd y (by decide), fun y => absurd y (by decide), fun y => absurd y (by decide), fun y => absurd y (by decide), fun y => absurd y (by decide), fun y => absurd y (by decide), fun _ => t_mislaid hr1 hN (ok _ _ b1), fun y => absurd y (by decide), fun y => absurd y (by decide), fun y => absurd y (by decide), fun y => absurd y (by decide), fun y => absurd y (by decide), fun y0 y1 y2 y3 y4 y5 y6 y7 y8 y9 y10 y11 y12 y13 y14 y15 => absurd rfl y10⟩
  · subst x
    refine k_drawn hc4 hN (fin _ ?_)
    unfold wp_Mod_count
    exact ⟨fun y => absurd y (by decide), fun y => absurd y (by decide), fun y => absurd y (by decide), fun y => absurd y (by decide), fun y => absurd y (by decide), fun y => absurd y (by decide), fun y => absurd y (by decide), fun y => absurd y (by decide), fun y => absurd y (by decide), fun y => absurd y (by decide), fun y => absurd y (by decide), fun _ => t_sumOf (v := 5) hr1 hN (by omega) (ok _ _ b5), fun y => absurd y (by decide), fun y => absurd y (by decide), fun y => absurd y (by decide), fun y => absurd y (by decide), fun y0 y1 y2 y3 y4 y5 y6 y7 y8 y9 y10 y11 y12 y13 y14 y15 => absurd rfl y11⟩
  · subst x
    refine fin _ ?_
    unfold wp_Mod_count
    exact ⟨fun y => absurd y (by decide), fun y => absurd y (by decide), fun y => absurd y (by decide), fun y => absurd y (by decide), fun y => absurd y (by decide), fun y => absurd y (by decide), fun y => absurd y (by decide), fun y => absurd y (by decide), fun y => absurd y (by decide), fun y => absurd y (by decide), fun y => absurd y (by decide), fun y => absurd y (by decide), fun _ => ok _ _ a6, fun y => absurd y (by decide), fun y => absurd y (by decide), fun y => absurd y (by decide), fun y0 y1 y2 y3 y4 y5 y6 y7 y8 y9 y10 y11 y12 y13 y14 y15 => absurd rfl y12⟩
  · refine fin _ ?_
    unfold wp_Mod_count
    exact ⟨fun y => absurd y x0, fun y => absurd y x1, fun y => absurd y x2, fun y => absurd y x3, fun y => absurd y x4, fun y => absurd y x5, fun y => absurd y x6, fun y => absurd y x7, fun y => absurd y x8, fun y => absurd y x9, fun y => absurd y x10, fun y => absurd y x11, fun y => absurd y x12, fun y => absurd y x13, fun y => absurd y x14, fun y => absurd y x15, fun _ _ _ _ _ _ _ _ _ _ _ _ _ _ _ _ => ok _ _ rfl⟩
