/-! The whole relation, and an action on both sides. -/
abbrev ZZ : Type := CS × Int32 × CS × Int32 × CS × (Nat → Int32) × (Nat → SS) × OS × CS
def HR (his : Nat → Int32) (fr : Nat → SS) (u : RS) : Prop := ∃ p n, p < 6 ∧ n ≤ 5 ∧ his 0 = nI p ∧ his 1 = nI n ∧ u.2.2.2 0 = nI n ∧ ∀ j, j < n → SR (fr ((p + 6 - n + j) % 6)) (fun i => u.1 (680 * (1 + j) + i))
def TXT (o : OS) (r : RS) : Prop := ∃ l, l ≤ 100 ∧ o.1 0 = nI l ∧ r.2.2.2 1 = nI l ∧ ∀ i, i < l → o.2 i = r.2.1 i
def TRx (z : ZZ) (r : RS) : Prop := SR (z.1, z.2.1, z.2.2.1, z.2.2.2.1, z.2.2.2.2.1) r.1 ∧ HR z.2.2.2.2.2.1 z.2.2.2.2.2.2.1 r ∧ TXT z.2.2.2.2.2.2.2.1 r
def ActH (cw : CS → (Int32 → CS → Prop) → Prop) (u : ZZ) (Post : Int32 → ZZ → Prop) : Prop := (wp_His_draft (u.2.2.2.2.2.1, u.2.2.2.2.2.2.1, u.1, u.2.1, u.2.2.1, u.2.2.2.1, u.2.2.2.2.1)  (fun z1 => (cw z1.2.2.1 (fun x3 z2 => (wp_Ham_recorded (z2, z1.2.2.2.1, z1.2.2.2.2.1, z1.2.2.2.2.2.1, z1.2.2.2.2.2.2, z1.1, z1.2.1, u.2.2.2.2.2.2.2.1, u.2.2.2.2.2.2.2.2) x3 (fun x5 z4 => Post x5 (z4.1, z4.2.1, z4.2.2.1, z4.2.2.2.1, z4.2.2.2.2.1, z4.2.2.2.2.2.1, z4.2.2.2.2.2.2.1, z4.2.2.2.2.2.2.2.1, z4.2.2.2.2.2.2.2.2)))))))
theorem stick_act (u : ZZ) (p1 p2 : Int32) (Post : Int32 → ZZ → Prop) : wp_Ham_stick u p1 p2 Post = ActH (fun c P => wp_Clb_stickStamps c p1 p2 P) u Post := rfl
theorem rem6 {p : Nat} (h : p < 1000) : nI p + 1 - (nI p + 1) / 6 * 6 = nI ((p + 1) % 6) := by
  rw [nI_1]
  exact pk_rem (d := 6) (by omega) (by omega) (by omega)
/-- the draft, kept -/
theorem HR_keep {his : Nat → Int32} {fr : Nat → SS} {r r' : RS} {s : SS} {p n : Nat} (hp : p < 6) (hn : n ≤ 5) (h : ∀ j, j < n → SR (fr ((p + 6 - n + j) % 6)) (fun i => r.1 (680 * (1 + j) + i))) (hs : SR s r.1) (his' : his 0 = nI ((p + 1) % 6)) (his1 : his 1 = nI (if n < 5 then n + 1 else 5)) (hr : r'.2.2.2 0 = nI (if n < 5 then n + 1 else 5)) (hrec : ∀ o, 680 ≤ o → r'.1 o = recF r.1 n o) : HR his (va_up fr p s) r' := by
  have rc := recF_of r.1 n
  obtain ⟨rc1, rc2, rc3⟩ := rc
  refine ⟨(p + 1) % 6, if n < 5 then n + 1 else 5, by omega, by split <;> omega, his', his1, hr, fun j hj => ?_⟩
  by_cases h5 : n < 5
  · rw [if_pos h5] at hj ⊢
    obtain ⟨r1, r2⟩ := rc2 h5
    by_cases z : j < n
    · have e : ((p + 1) % 6 + 6 - (n + 1) + j) % 6 = (p + 6 - n + j) % 6 := by omega
      have ne : (p + 6 - n + j) % 6 ≠ p := by omega
      rw [e, va_up_ne fr s ne]
      refine SR_row (h j z) (fun i hi => ?_)
      rw [hrec _ (by omega)]
      exact r1 j i z hi
    · have ej : j = n := by omega
      subst ej
      have e : ((p + 1) % 6 + 6 - (j + 1) + j) % 6 = p := by omega
      rw [e, va_up_self]
      refine SR_row hs (fun i hi => ?_)
      rw [hrec _ (by omega)]
      exact r2 i hi
  · have e5 : n = 5 := by omega
    subst e5
    rw [if_neg h5] at hj ⊢
    obtain ⟨r1, r2⟩ := rc3 rfl
    by_cases z : j < 4
    · have e : ((p + 1) % 6 + 6 - 5 + j) % 6 = (p + 6 - 5 + (j + 1)) % 6 := by omega
      have ne : (p + 6 - 5 + (j + 1)) % 6 ≠ p := by omega
      rw [e, va_up_ne fr s ne]
      refine SR_row (h (j + 1) (by omega)) (fun i hi => ?_)
      rw [hrec _ (by omega)]
      exact r1 j i z hi
    · have ej : j = 4 := by omega
      subst ej
      have e : ((p + 1) % 6 + 6 - 5 + 4) % 6 = p := by omega
      rw [e, va_up_self]
      refine SR_row hs (fun i hi => ?_)
      rw [hrec _ (by omega)]
      exact r2 i hi
/-- the draft, not kept -/
theorem HR_draft {his : Nat → Int32} {fr : Nat → SS} {r : RS} {s : SS} {p n : Nat} (hp : p < 6) (hn : n ≤ 5) (h0 : his 0 = nI p) (h1 : his 1 = nI n) (hr : r.2.2.2 0 = nI n) (h : ∀ j, j < n → SR (fr ((p + 6 - n + j) % 6)) (fun i => r.1 (680 * (1 + j) + i))) : HR his (va_up fr p s) r := by
  refine ⟨p, n, hp, hn, h0, h1, hr, fun j hj => ?_⟩
  have ne : (p + 6 - n + j) % 6 ≠ p := by omega
  rw [va_up_ne fr s ne]
  exact h j hj
theorem keep1 {n : Nat} (hn : n ≤ 5) : (if (5 : Int32) < nI n + 1 then (5 : Int32) else nI n + 1) = nI (if n < 5 then n + 1 else 5) := by
  rw [nI_1]
  by_cases h : n < 5
  · rw [if_pos h, if_neg (show ¬ (5 : Int32) < nI (n + 1) from Int32.not_lt.mpr (nI_le (a := n + 1) (b := 5) (by omega) (by omega)))]
  · have : n = 5 := by omega
    subst this
    decide
theorem act_sim {cw : CS → (Int32 → CS → Prop) → Prop} {nw dw : RS → (Int32 → RS → Prop) → Prop} (hs : ∀ c, OpSim2 (cw c) nw dw c) {z : ZZ} {r : RS} (h : TRx z r) {K : ZZ → RS → Prop} (hK : ∀ z' r', TRx z' r' → K z' r') {mw : (Int32 → RS → Prop) → Prop} (hmw : ∀ Post, nw r (fun x v => (x = 0 → wp_Mod_record v (fun v' => dw v' Post)) ∧ (¬ x = 0 → Post x v)) → mw Post) : ActH cw z (fun x z1 => mw (fun y r1 => (x = y → K z1 r1) ∧ (¬ x = y → False))) := by
  obtain ⟨c, t1, k1, t2, k2, his, fr, ord, tr⟩ := z
  obtain ⟨hSR, ⟨p, n, hp, hn, h0, h1, hr0, hfr⟩, hTX⟩ := h
  have h0 : his 0 = nI p := h0
  have h1 : his 1 = nI n := h1
  have hok := hSR.ok
  obtain ⟨⟨w, N, hc⟩, s2, s3, s4, s5, s6, s7⟩ := hSR
  have hc : CRw c r.1 w N := hc
  unfold ActH wp_His_draft
  refine ⟨by show vp_in (his 0) 6; rw [h0]; exact vp_in_nI hp (by omega), ?_⟩
  intro j1 ej
  have ej : j1 = p := by
    rw [ej]
    show (his 0).toNatClampNeg = p
    rw [h0, nI_clamp (by omega)]
  subst ej
  refine t_copyS (a := fr j1) (s := (c, t1, k1, t2, k2)) hok (fun a' e' => ?_)
  have hSRa : SR a' r.1 := SR_eq (s := (c, t1, k1, t2, k2)) ⟨⟨w, N, hc⟩, s2, s3, s4, s5, s6, s7⟩ e'
  have rc := recF_of r.1 n
  have hc2 : CRw c (recF r.1 n) w N := CRw_row hc (fun i hi => rc.1 i (by omega))
  rcases hs c r.1 (recF r.1 n) w N hc hc2 with ⟨e, he, hcl, hno⟩ | ⟨x, c', g', w', N', hx, hcr, hout, hcl, hno, hdo⟩
  · refine hcl _ ?_
    unfold wp_Ham_recorded
    refine ⟨fun _ => ?_, fun q => absurd he q⟩
    refine hmw _ (hno r _ rfl ⟨fun q => absurd he (by rw [q]; decide), fun _ => ⟨fun _ => hK _ _ ⟨⟨⟨w, N, hc⟩, s2, s3, s4, s5, s6, s7⟩, HR_draft hp hn h0 h1 hr0 hfr, hTX⟩, fun q => absurd rfl q⟩⟩)
  · refine hcl _ ?_
    unfold wp_Ham_recorded
    refine ⟨fun q => absurd q (Int32.not_lt.mpr hx), fun _ => ?_⟩
    unfold wp_His_keepDraft
    simp only [forall_eq]
    refine hmw _ (hno r _ rfl ⟨fun _ => t_record hn hr0 (hdo _ _ rfl (fun F => ⟨fun _ => hK _ _ ⟨?_, ?_, hTX⟩, fun q => absurd rfl q⟩)), fun q => absurd rfl q⟩)
    · have o : ∀ i, 226 ≤ i → i < 680 → g' i = r.1 i := fun i h1 h2 => (hout i h1).trans (rc.1 i h2)
      exact ⟨⟨w', N', hcr⟩, s2, (o 678 (by omega) (by omega)).trans s3, fun q => CR_row (s4 q) (fun i hi => o (226 + i) (by omega) (by omega)), s5, (o 679 (by omega) (by omega)).trans s6, fun q => CR_row (s7 q) (fun i hi => o (452 + i) (by omega) (by omega))⟩
    · refine HR_keep (n := n) hp hn hfr hSRa ?_ ?_ rfl (fun o ho => hout o (by omega))
      · show his 0 + 1 - (his 0 + 1) / 6 * 6 = _
        rw [h0]
        exact rem6 (by omega)
      · show (if (5 : Int32) < his 1 + 1 then (5 : Int32) else his 1 + 1) = _
        rw [h1]
        exact keep1 hn
