/-! Changes of the whole state, and take and restore on both sides. -/
def ActS (cw : SS → (Int32 → SS → Prop) → Prop) (u : ZZ) (Post : Int32 → ZZ → Prop) : Prop := (wp_His_draft (u.2.2.2.2.2.1, u.2.2.2.2.2.2.1, u.1, u.2.1, u.2.2.1, u.2.2.2.1, u.2.2.2.2.1)  (fun z1 => (cw (z1.2.2.1, z1.2.2.2.1, z1.2.2.2.2.1, z1.2.2.2.2.2.1, z1.2.2.2.2.2.2) (fun x3 z2 => (wp_Ham_recorded (z2.1, z2.2.1, z2.2.2.1, z2.2.2.2.1, z2.2.2.2.2, z1.1, z1.2.1, u.2.2.2.2.2.2.2.1, u.2.2.2.2.2.2.2.2) x3 (fun x5 z4 => Post x5 (z4.1, z4.2.1, z4.2.2.1, z4.2.2.2.1, z4.2.2.2.2.1, z4.2.2.2.2.2.1, z4.2.2.2.2.2.2.1, z4.2.2.2.2.2.2.2.1, z4.2.2.2.2.2.2.2.2)))))))
def StSim (cw : SS → (Int32 → SS → Prop) → Prop) (nw dw : RS → (Int32 → RS → Prop) → Prop) : Prop :=
  ∀ s f f2, SR s f → SR s f2 → (∀ i, i < 680 → f2 i = f i) →
    (∃ e : Int32, e < 0 ∧ (∀ Post : Int32 → SS → Prop, Post e s → cw s Post) ∧ ∀ (u : RS) (Post : Int32 → RS → Prop), u.1 = f → Post e u → nw u Post) ∨
    (∃ (x : Int32) (s' : SS) (g' : Nat → Int32), 0 ≤ x ∧ SR s' g' ∧ (∀ i, 680 ≤ i → g' i = f2 i) ∧ (∀ Post : Int32 → SS → Prop, Post x s' → cw s Post) ∧ (∀ (u : RS) (Post : Int32 → RS → Prop), u.1 = f → Post 0 u → nw u Post) ∧ ∀ (u : RS) (Post : Int32 → RS → Prop), u.1 = f2 → Post x (rR u g') → dw u Post)
theorem actS_sim {cw : SS → (Int32 → SS → Prop) → Prop} {nw dw : RS → (Int32 → RS → Prop) → Prop} (hs : StSim cw nw dw) {z : ZZ} {r : RS} (h : TRx z r) {K : ZZ → RS → Prop} (hK : ∀ z' r', TRx z' r' → K z' r') {mw : (Int32 → RS → Prop) → Prop} (hmw : ∀ Post, nw r (fun x v => (x = 0 → wp_Mod_record v (fun v' => dw v' Post)) ∧ (¬ x = 0 → Post x v)) → mw Post) : ActS cw z (fun x z1 => mw (fun y r1 => (x = y → K z1 r1) ∧ (¬ x = y → False))) := by
  obtain ⟨c, t1, k1, t2, k2, his, fr, ord, tr⟩ := z
  obtain ⟨hSR, ⟨p, n, hp, hn, h0, h1, hr0, hfr⟩, hTX⟩ := h
  have h0 : his 0 = nI p := h0
  have h1 : his 1 = nI n := h1
  have hSR : SR (c, t1, k1, t2, k2) r.1 := hSR
  unfold ActS wp_His_draft
  refine ⟨by show vp_in (his 0) 6; rw [h0]; exact vp_in_nI hp (by omega), ?_⟩
  intro j1 ej
  have ej : j1 = p := by
    rw [ej]
    show (his 0).toNatClampNeg = p
    rw [h0, nI_clamp (by omega)]
  subst ej
  refine t_copyS (a := fr j1) (s := (c, t1, k1, t2, k2)) hSR.ok (fun a' e' => ?_)
  have hSRa : SR a' r.1 := SR_eq hSR e'
  have rc := recF_of r.1 n
  rcases hs (c, t1, k1, t2, k2) r.1 (recF r.1 n) hSR (SR_row hSR rc.1) rc.1 with ⟨e, he, hcl, hno⟩ | ⟨x, s', g', hx, hcr, hout, hcl, hno, hdo⟩
  · refine hcl _ ?_
    unfold wp_Ham_recorded
    refine ⟨fun _ => ?_, fun q => absurd he q⟩
    refine hmw _ (hno r _ rfl ⟨fun q => absurd he (by rw [q]; decide), fun _ => ⟨fun _ => hK _ _ ⟨hSR, HR_draft hp hn h0 h1 hr0 hfr, hTX⟩, fun q => absurd rfl q⟩⟩)
  · refine hcl _ ?_
    unfold wp_Ham_recorded
    refine ⟨fun q => absurd q (Int32.not_lt.mpr hx), fun _ => ?_⟩
    unfold wp_His_keepDraft
    simp only [forall_eq]
    refine hmw _ (hno r _ rfl ⟨fun _ => t_record hn hr0 (hdo _ _ rfl ⟨fun _ => hK _ _ ⟨hcr, ?_, hTX⟩, fun q => absurd rfl q⟩), fun q => absurd rfl q⟩)
    refine HR_keep (n := n) hp hn hfr hSRa ?_ ?_ rfl (fun o ho => hout o ho)
    · show his 0 + 1 - (his 0 + 1) / 6 * 6 = _
      rw [h0]
      exact rem6 (by omega)
    · show (if (5 : Int32) < his 1 + 1 then (5 : Int32) else his 1 + 1) = _
      rw [h1]
      exact keep1 hn
def nwTake (p1 : Int32) (u : RS) (P : Int32 → RS → Prop) : Prop := (pf_Mod_in p1 0 1 = 0 → P (-1) u) ∧ (¬ pf_Mod_in p1 0 1 = 0 → P 0 u)
def dwTake (p1 : Int32) (u1 : RS) (P : Int32 → RS → Prop) : Prop := wp_Mod_copy u1 0 (226 + (226 * p1)) 226 (fun u2 => (vp_in (678 + p1) 4306 ∧ (∀ u3 : RS, u3 = (rR u2 (upd u2.1 (678 + p1).toNatClampNeg 1)) → P (u3.1 (0 : Int32).toNatClampNeg) u3)))
theorem take_of (u : RS) (p1 : Int32) (Post : Int32 → RS → Prop) (h : nwTake p1 u (fun x v => (x = 0 → wp_Mod_record v (fun v' => dwTake p1 v' Post)) ∧ (¬ x = 0 → Post x v))) : wp_Mod_take u p1 Post :=
  ⟨fun q => (h.1 q).2 (by decide), fun q => (h.2 q).1 rfl⟩
theorem is01 {p : Int32} (h : ¬ pf_Mod_in p 0 1 = 0) : p = 0 ∨ p = 1 := by
  have h' : 0 ≤ p.toInt ∧ p.toInt ≤ 1 := Classical.not_not.mp (fun y => h (in15.mpr y))
  obtain ⟨q, hq, e⟩ := lit_of (n := 1) (by omega) h'.1 h'.2
  rcases Nat.lt_or_ge q 1 with z | z
  · left
    have : q = 0 := by omega
    rw [e, this]
    rfl
  · right
    have : q = 1 := by omega
    rw [e, this]
    rfl
theorem CR_week {c : CS} {f : Nat → Int32} (h : CR c f) : ∃ w, w ≤ 60 ∧ c.1 0 = nI w ∧ f 0 = nI w := by
  obtain ⟨w, N, h⟩ := h
  exact ⟨w, h.1.1.1, h.1.1.2.2.1, h.1.1.2.2.2.1⟩
theorem x_copyC {a b : CS} (h01 : b.1 1 = 0 ∨ b.1 1 = 1) : ∃ a', EqC a' b ∧ ∀ Post : CS × CS → Prop, Post (a', b) → wp_Clb_copyFrom (a, b) Post := by
  apply Exists.intro
  apply And.intro
  rotate_left
  · intro Post h
    unfold wp_Clb_copyFrom wp_Crd_copyFrom wp_Hmp_copyFrom wp_Acc_copyFrom
    simp only [forall_eq, c0, c4, c12]
    exact ⟨h01, h⟩
  · refine ⟨fun i hi => ?_, fun k m hk hm h7 h8 => ?_, fun m hm => ⟨?_, ?_⟩, fun m hm => ?_⟩
    · have : i = 0 ∨ i = 1 ∨ i = 2 ∨ i = 3 ∨ i = 4 ∨ i = 5 ∨ i = 6 ∨ i = 7 ∨ i = 8 ∨ i = 9 := by omega
      rcases this with rfl | rfl | rfl | rfl | rfl | rfl | rfl | rfl | rfl | rfl <;> rfl
    · have : k = 0 ∨ k = 1 ∨ k = 2 ∨ k = 3 ∨ k = 4 ∨ k = 5 ∨ k = 6 ∨ k = 9 ∨ k = 10 ∨ k = 11 := by omega
      rcases this with rfl | rfl | rfl | rfl | rfl | rfl | rfl | rfl | rfl | rfl <;> exact cpy_lt hm
    · exact cpy_lt hm
    · exact cpy_lt hm
    · exact cpy_lt hm
theorem p_take {z : ZZ} {r : RS} (h : TRx z r) {K : ZZ → RS → Prop} (hK : ∀ z' r', TRx z' r' → K z' r') {p1 : Int32} {mw : (Int32 → RS → Prop) → Prop} (hmw : ∀ Post, wp_Mod_take r p1 Post → mw Post) : wp_Ham_take z p1 (fun x z1 => mw (fun y r1 => (x = y → K z1 r1) ∧ (¬ x = y → False))) := by
  refine actS_sim (cw := fun s P => wp_Sta_takeSnapshot s p1 P) (nw := nwTake p1) (dw := dwTake p1) ?_ h hK (fun Post q => hmw Post (take_of r p1 Post q))
  rintro ⟨c, t1, k1, t2, k2⟩ f f2 hs hs2 -
  obtain ⟨s1, s2, s3, s4, s5, s6, s7⟩ := hs2
  have s1 : CR c f2 := s1
  obtain ⟨w, w1, w2, w3⟩ := CR_week s1
  by_cases hp : pf_Mod_in p1 0 1 = 0
  · refine Or.inl ⟨-1, by decide, fun Post q => ?_, fun u Post e q => ⟨fun _ => q, fun y => absurd hp y⟩⟩
    have hb := in15.mp hp
    show wp_Sta_takeSnapshot (c, t1, k1, t2, k2) p1 Post
    unfold wp_Sta_takeSnapshot
    refine ⟨fun _ => q, fun y => ⟨fun y2 => absurd ⟨?_, Int32.le_iff_toInt_le.mp y2⟩ hb, fun _ => q⟩⟩
    have : ¬ p1.toInt < (0 : Int32).toInt := fun x => y (Int32.lt_iff_toInt_lt.mpr x)
    omega
  · rcases is01 hp with e | e
    · subst e
      obtain ⟨a', ea, hcp⟩ := x_copyC (a := k1) (CR_01 s1)
      refine Or.inr ⟨c.1 0, (c, 1, a', t2, k2), upd (cpF f2 0 226 226) 678 1, by rw [w2]; exact nI_nn (by omega), ?_, fun i hi => ?_, fun Post q => ?_, fun u Post e q => ⟨fun y => absurd y hp, fun _ => q⟩, fun u Post e q => ?_⟩
      · have o : ∀ i, i < 226 → upd (cpF f2 0 226 226) 678 1 i = f2 i := fun i hi => by unfold cpF; rw [upd_if, if_neg (by omega), if_neg (by omega)]
        have o2 : ∀ i, 452 ≤ i → i < 678 → upd (cpF f2 0 226 226) 678 1 i = f2 i := fun i h1 h2 => by unfold cpF; rw [upd_if, if_neg (by omega), if_neg (by omega)]
        refine ⟨CR_row s1 o, Or.inr rfl, by rw [upd_if, if_pos rfl], fun _ => CR_eqC (CR_row s1 (fun i hi => ?_)) ea, s5, ?_, fun q => CR_row (s7 q) (fun i hi => o2 (452 + i) (by omega) (by omega))⟩
        · show upd (cpF f2 0 226 226) 678 1 (226 + i) = _
          unfold cpF
          rw [upd_if, if_neg (by omega), if_pos (by omega), show 0 + (226 + i - 226) = i by omega]
        · unfold cpF
          rw [upd_if, if_neg (by omega), if_neg (by omega)]
          exact s6
      · unfold cpF
        rw [upd_if, if_neg (by omega), if_neg (by omega)]
      · show wp_Sta_takeSnapshot (c, t1, k1, t2, k2) 0 Post
        unfold wp_Sta_takeSnapshot
        refine ⟨fun y => absurd y (by decide), fun _ => ⟨fun _ => ⟨fun _ => hcp _ ?_, fun y => absurd rfl y⟩, fun y => absurd (by decide) y⟩⟩
        intro u4 e4
        rw [e4]
        exact q
      · show dwTake 0 u Post
        unfold dwTake
        refine t_copy (a := 0) (b := 226) (n := 226) (by omega) (by omega) (by omega) ⟨show vp_in (nI 678) 4306 from vp_in_nI (by omega) (by omega), ?_⟩
        intro u3 e3
        have x0 : u3.1 (0 : Int32).toNatClampNeg = c.1 0 := by
          rw [e3, c0]
          show upd (cpF u.1 0 226 226) 678 1 0 = _
          unfold cpF
          rw [upd_if, if_neg (by omega), if_neg (by omega), e, w3, w2]
        rw [x0, e3]
        rw [← e] at q
        exact q
    · subst e
      obtain ⟨a', ea, hcp⟩ := x_copyC (a := k2) (CR_01 s1)
      refine Or.inr ⟨c.1 0, (c, t1, k1, 1, a'), upd (cpF f2 0 452 226) 679 1, by rw [w2]; exact nI_nn (by omega), ?_, fun i hi => ?_, fun Post q => ?_, fun u Post e q => ⟨fun y => absurd y hp, fun _ => q⟩, fun u Post e q => ?_⟩
      · have o : ∀ i, i < 452 → upd (cpF f2 0 452 226) 679 1 i = f2 i := fun i hi => by unfold cpF; rw [upd_if, if_neg (by omega), if_neg (by omega)]
        refine ⟨CR_row s1 (fun i hi => o i (by omega)), s2, ?_, fun q => CR_row (s4 q) (fun i hi => o (226 + i) (by omega)), Or.inr rfl, by rw [upd_if, if_pos rfl], fun _ => CR_eqC (CR_row s1 (fun i hi => ?_)) ea⟩
        · unfold cpF
          rw [upd_if, if_neg (by omega), if_neg (by omega)]
          exact s3
        · show upd (cpF f2 0 452 226) 679 1 (452 + i) = _
          unfold cpF
          rw [upd_if, if_neg (by omega), if_pos (by omega), show 0 + (452 + i - 452) = i by omega]
      · unfold cpF
        rw [upd_if, if_neg (by omega), if_neg (by omega)]
      · show wp_Sta_takeSnapshot (c, t1, k1, t2, k2) 1 Post
        unfold wp_Sta_takeSnapshot
        refine ⟨fun y => absurd y (by decide), fun _ => ⟨fun _ => ⟨fun y => absurd y (by decide), fun _ => hcp _ ?_⟩, fun y => absurd (by decide) y⟩⟩
        intro u4 e4
        rw [e4]
        exact q
      · show dwTake 1 u Post
        unfold dwTake
        refine t_copy (a := 0) (b := 452) (n := 226) (by omega) (by omega) (by omega) ⟨show vp_in (nI 679) 4306 from vp_in_nI (by omega) (by omega), ?_⟩
        intro u3 e3
        have x0 : u3.1 (0 : Int32).toNatClampNeg = c.1 0 := by
          rw [e3, c0]
          show upd (cpF u.1 0 452 226) 679 1 0 = _
          unfold cpF
          rw [upd_if, if_neg (by omega), if_neg (by omega), e, w3, w2]
        rw [x0, e3]
        rw [← e] at q
        exact q
