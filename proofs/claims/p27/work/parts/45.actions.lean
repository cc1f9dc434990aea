/-! Snapshots, the text, every action. -/
theorem week_nn {c : CS} (h : CInv c) : 0 ≤ c.1 0 := by
  obtain ⟨w, N, h⟩ := h
  rw [h.1.2.1.2.2.1]
  have := h.1.2.1.1
  exact nI_nn (by omega)
theorem t_take {s : SS} {p : Int32} {Post : Int32 → SS → Prop} (hs : SI s) (hn : (p < 0 ∨ ¬ p ≤ 1) → Post (-1) s) (h0 : p = 0 → Post (s.1.1 0) (s.1, 1, s.1, s.2.2.2.1, s.2.2.2.2)) (h1 : ¬ p = 0 → ¬ p < 0 → p ≤ 1 → Post (s.1.1 0) (s.1, s.2.1, s.2.2.1, 1, s.1)) : wp_Sta_takeSnapshot (s.1, s.2.1, s.2.2.1, s.2.2.2.1, s.2.2.2.2) p Post := by
  obtain ⟨i1, i2, i3, i4, i5, i6, i7⟩ := hs
  unfold wp_Sta_takeSnapshot
  refine ⟨fun q => hn (Or.inl q), fun q => ⟨fun q2 => ⟨fun q3 => t_copyC i3 i1.can i1.flag ?_, fun q3 => t_copyC i6 i1.can i1.flag ?_⟩, fun q2 => hn (Or.inr q2)⟩⟩
  · intro u eu
    rw [eu]
    exact h0 q3
  · intro u eu
    rw [eu]
    exact h1 q3 q q2
theorem t_restore {s : SS} {p : Int32} {Post : Int32 → SS → Prop} (hs : SI s) (hn : (p < 0 ∨ ¬ p ≤ 1) → Post (-1) s) (hn0 : p = 0 → s.2.1 = 0 → Post (-2) s) (hn1 : ¬ p = 0 → s.2.2.2.1 = 0 → Post (-2) s) (h0 : p = 0 → s.2.1 = 1 → Post (s.2.2.1.1 0) (s.2.2.1, s.2.1, s.2.2.1, s.2.2.2.1, s.2.2.2.2)) (h1 : ¬ p = 0 → s.2.2.2.1 = 1 → Post (s.2.2.2.2.1 0) (s.2.2.2.2, s.2.1, s.2.2.1, s.2.2.2.1, s.2.2.2.2)) : wp_Sta_restoreSnapshot (s.1, s.2.1, s.2.2.1, s.2.2.2.1, s.2.2.2.2) p Post := by
  obtain ⟨i1, i2, i3, i4, i5, i6, i7⟩ := hs
  unfold wp_Sta_restoreSnapshot
  refine ⟨fun q => hn (Or.inl q), fun q => ⟨fun q2 => ⟨fun q3 => ⟨fun q4 => hn0 q3 q4, fun q4 => ?_⟩, fun q3 => ⟨fun q4 => hn1 q3 q4, fun q4 => ?_⟩⟩, fun q2 => hn (Or.inr q2)⟩⟩
  · have e : s.2.1 = 1 := i2.resolve_left q4
    exact t_copyC i1.can i3 (i4 e).flag (h0 q3 e)
  · have e : s.2.2.2.1 = 1 := i5.resolve_left q4
    exact t_copyC i1.can i6 (i7 e).flag (h1 q3 e)
def ActS (sw : (Int32 → SS → Prop) → Prop) (z : ZZ) (Post : Int32 → ZZ → Prop) : Prop := ∀ a : SS, EqS a (stZ z) → Fk a → sw (fun x s' => wp_Ham_recorded (s'.1, s'.2.1, s'.2.2.1, s'.2.2.2.1, s'.2.2.2.2, z.2.2.2.2.2.1, va_up z.2.2.2.2.2.2.1 (z.2.2.2.2.2.1 0).toNatClampNeg a, z.2.2.2.2.2.2.2.1, z.2.2.2.2.2.2.2.2) x Post)
theorem actS_err {z : ZZ} (h : ZI z) {a : SS} (ka : Fk a) {e : Int32} (he : e < 0) {Post : Int32 → ZZ → Prop} (hK : ∀ fr, ZI (mkZ (stZ z) z.2.2.2.2.2.1 fr z.2.2.2.2.2.2.2.1 z.2.2.2.2.2.2.2.2) → Post e (mkZ (stZ z) z.2.2.2.2.2.1 fr z.2.2.2.2.2.2.2.1 z.2.2.2.2.2.2.2.2)) : wp_Ham_recorded ((stZ z).1, (stZ z).2.1, (stZ z).2.2.1, (stZ z).2.2.2.1, (stZ z).2.2.2.2, z.2.2.2.2.2.1, va_up z.2.2.2.2.2.2.1 (z.2.2.2.2.2.1 0).toNatClampNeg a, z.2.2.2.2.2.2.2.1, z.2.2.2.2.2.2.2.2) e Post := by
  obtain ⟨hs, hh, hf, ht, hc⟩ := h
  exact t_rec (s := stZ z) (fun _ => hK _ ⟨hs, hh, FI_up hf ka, ht, hc⟩) (fun q => absurd he (Int32.not_lt.mpr q))
theorem actS_ok {z : ZZ} (h : ZI z) {a s' : SS} (ea : EqS a (stZ z)) (ka : Fk a) (hs' : SI s') {x : Int32} (hx : 0 ≤ x) {Post : Int32 → ZZ → Prop} (hK : ∀ his fr, ZI (mkZ s' his fr z.2.2.2.2.2.2.2.1 z.2.2.2.2.2.2.2.2) → Top (mkZ s' his fr z.2.2.2.2.2.2.2.1 z.2.2.2.2.2.2.2.2) (stZ z) → Post x (mkZ s' his fr z.2.2.2.2.2.2.2.1 z.2.2.2.2.2.2.2.2)) : wp_Ham_recorded (s'.1, s'.2.1, s'.2.2.1, s'.2.2.2.1, s'.2.2.2.2, z.2.2.2.2.2.1, va_up z.2.2.2.2.2.2.1 (z.2.2.2.2.2.1 0).toNatClampNeg a, z.2.2.2.2.2.2.2.1, z.2.2.2.2.2.2.2.2) x Post := by
  obtain ⟨hs, ⟨p, n, hp, hn, h0, h1⟩, hf, ht, hc⟩ := h
  have ep : (z.2.2.2.2.2.1 0).toNatClampNeg = p := by rw [h0, nI_clamp (by omega)]
  rw [ep]
  refine t_rec (s := s') (fun q => absurd q (Int32.not_lt.mpr hx)) (fun _ => ?_)
  obtain ⟨k1, k2⟩ := keepH_top (fr := z.2.2.2.2.2.2.1) (s' := s') (o := z.2.2.2.2.2.2.2.1) (tr := z.2.2.2.2.2.2.2.2) hp hn h0 h1 ea
  exact hK _ _ ⟨hs', k1, FI_up hf ka, ht, hc⟩ k2
theorem take_of {z : ZZ} (h : ZI z) {p : Int32} {Post : Int32 → ZZ → Prop} (hs : ActS (fun P => wp_Sta_takeSnapshot ((stZ z).1, (stZ z).2.1, (stZ z).2.2.1, (stZ z).2.2.2.1, (stZ z).2.2.2.2) p P) z Post) : wp_Ham_take z p Post := by
  obtain ⟨h1, ⟨q, n, hp, hn, e0, e1⟩, hf, ht, hc⟩ := h
  have ep : (z.2.2.2.2.2.1 0).toNatClampNeg = q := by rw [e0, nI_clamp (by omega)]
  unfold wp_Ham_take
  refine t_draft (s := stZ z) h1 hp e0 hf (fun a ea ka => ?_)
  have := hs a ea ka
  rw [ep] at this
  exact this
theorem restore_of {z : ZZ} (h : ZI z) {p : Int32} {Post : Int32 → ZZ → Prop} (hs : ActS (fun P => wp_Sta_restoreSnapshot ((stZ z).1, (stZ z).2.1, (stZ z).2.2.1, (stZ z).2.2.2.1, (stZ z).2.2.2.2) p P) z Post) : wp_Ham_restore z p Post := by
  obtain ⟨h1, ⟨q, n, hp, hn, e0, e1⟩, hf, ht, hc⟩ := h
  have ep : (z.2.2.2.2.2.1 0).toNatClampNeg = q := by rw [e0, nI_clamp (by omega)]
  unfold wp_Ham_restore
  refine t_draft (s := stZ z) h1 hp e0 hf (fun a ea ka => ?_)
  have := hs a ea ka
  rw [ep] at this
  exact this
theorem SI_t0 {s : SS} (h : SI s) : SI (s.1, 1, s.1, s.2.2.2.1, s.2.2.2.2) := ⟨h.1, Or.inr rfl, h.1.can, fun _ => h.1, h.2.2.2.2⟩
theorem SI_t1 {s : SS} (h : SI s) : SI (s.1, s.2.1, s.2.2.1, 1, s.1) := ⟨h.1, h.2.1, h.2.2.1, h.2.2.2.1, Or.inr rfl, h.1.can, fun _ => h.1⟩
theorem take_op {z : ZZ} (h : ZI z) {p : Int32} {Post : Int32 → ZZ → Prop} (hK : AK z Post) : wp_Ham_take z p Post :=
  take_of h (fun a ea ka => t_take h.1 (fun _ => actS_err h ka (by decide) (fun fr hz => hK.1 _ _ (by decide) hz rfl)) (fun _ => actS_ok h ea ka (SI_t0 h.1) (week_nn h.1.1) (fun his fr hz ht => hK.2 _ _ (week_nn h.1.1) hz ht)) (fun _ _ _ => actS_ok h ea ka (SI_t1 h.1) (week_nn h.1.1) (fun his fr hz ht => hK.2 _ _ (week_nn h.1.1) hz ht)))
theorem restore_op {z : ZZ} (h : ZI z) {p : Int32} {Post : Int32 → ZZ → Prop} (hK : AK z Post) : wp_Ham_restore z p Post :=
  restore_of h (fun a ea ka => t_restore h.1 (fun _ => actS_err h ka (by decide) (fun fr hz => hK.1 _ _ (by decide) hz rfl)) (fun _ _ => actS_err h ka (by decide) (fun fr hz => hK.1 _ _ (by decide) hz rfl)) (fun _ _ => actS_err h ka (by decide) (fun fr hz => hK.1 _ _ (by decide) hz rfl))
    (fun _ e => actS_ok (s' := ((stZ z).2.2.1, (stZ z).2.1, (stZ z).2.2.1, (stZ z).2.2.2.1, (stZ z).2.2.2.2)) h ea ka ⟨h.1.2.2.2.1 e, h.1.2⟩ (week_nn (h.1.2.2.2.1 e)) (fun his fr hz ht => hK.2 _ _ (week_nn (h.1.2.2.2.1 e)) hz ht))
    (fun _ e => actS_ok (s' := ((stZ z).2.2.2.2, (stZ z).2.1, (stZ z).2.2.1, (stZ z).2.2.2.1, (stZ z).2.2.2.2)) h ea ka ⟨h.1.2.2.2.2.2.2 e, h.1.2⟩ (week_nn (h.1.2.2.2.2.2.2 e)) (fun his fr hz ht => hK.2 _ _ (week_nn (h.1.2.2.2.2.2.2 e)) hz ht)))
/-- taking into the first slot -/
theorem take_0 {z : ZZ} (h : ZI z) {Post : Int32 → ZZ → Prop} (hK : ∀ his fr, ZI (mkZ (z.1, 1, z.1, z.2.2.2.1, z.2.2.2.2.1) his fr z.2.2.2.2.2.2.2.1 z.2.2.2.2.2.2.2.2) → Post (z.1.1 0) (mkZ (z.1, 1, z.1, z.2.2.2.1, z.2.2.2.2.1) his fr z.2.2.2.2.2.2.2.1 z.2.2.2.2.2.2.2.2)) : wp_Ham_take z 0 Post :=
  take_of h (fun a ea ka => t_take h.1 (fun q => absurd q (by decide)) (fun _ => actS_ok h ea ka (SI_t0 h.1) (week_nn h.1.1) (fun his fr hz ht => hK his fr hz)) (fun q => absurd rfl q))
theorem take_2 {z : ZZ} (h : ZI z) {Post : Int32 → ZZ → Prop} (hK : ∀ z', ZI z' → stZ z' = stZ z → Post (-1) z') : wp_Ham_take z 2 Post :=
  take_of h (fun a ea ka => t_take h.1 (fun _ => actS_err h ka (by decide) (fun fr hz => hK _ hz rfl)) (fun q => absurd q (by decide)) (fun _ _ q => absurd q (by decide)))
theorem restore_m1 {z : ZZ} (h : ZI z) {Post : Int32 → ZZ → Prop} (hK : ∀ z', ZI z' → stZ z' = stZ z → Post (-1) z') : wp_Ham_restore z (-1) Post := by
  refine restore_of h (fun a ea ka => ?_)
  show wp_Sta_restoreSnapshot _ (-1) _
  unfold wp_Sta_restoreSnapshot
  exact ⟨fun _ => actS_err h ka (by decide) (fun fr hz => hK _ hz rfl), fun q => absurd (by decide) q⟩
theorem restore_0 {z : ZZ} (h : ZI z) (e : z.2.1 = 1) {Post : Int32 → ZZ → Prop} (hK : ∀ his fr, ZI (mkZ (z.2.2.1, z.2.1, z.2.2.1, z.2.2.2.1, z.2.2.2.2.1) his fr z.2.2.2.2.2.2.2.1 z.2.2.2.2.2.2.2.2) → Top (mkZ (z.2.2.1, z.2.1, z.2.2.1, z.2.2.2.1, z.2.2.2.2.1) his fr z.2.2.2.2.2.2.2.1 z.2.2.2.2.2.2.2.2) (stZ z) → Post (z.2.2.1.1 0) (mkZ (z.2.2.1, z.2.1, z.2.2.1, z.2.2.2.1, z.2.2.2.2.1) his fr z.2.2.2.2.2.2.2.1 z.2.2.2.2.2.2.2.2)) : wp_Ham_restore z 0 Post :=
  restore_of h (fun a ea ka => t_restore h.1 (fun q => absurd q (by decide)) (fun _ q => absurd (e.symm.trans q) (by decide)) (fun q => absurd rfl q) (fun _ _ => actS_ok (s' := ((stZ z).2.2.1, (stZ z).2.1, (stZ z).2.2.1, (stZ z).2.2.2.1, (stZ z).2.2.2.2)) h ea ka ⟨h.1.2.2.2.1 e, h.1.2⟩ (week_nn (h.1.2.2.2.1 e)) (fun his fr hz ht => hK his fr hz ht)) (fun q => absurd rfl q))
/-- the text: an order for the first member to stick three, or nothing -/
theorem nx {o : OS} {L a v : Int32} {i : Nat} {Post : Int32 → OS → Prop} (hL : o.1 0 = L) (ha : o.1 1 = a) (hlt : ¬ L ≤ a) (hi : a.toNatClampNeg = i) (hv : vp_in a 100) (ht : o.2 i = v) (h : Post v o) : wp_Ord_next o Post := by
  unfold wp_Ord_next
  rw [hL, ha, hi, ht]
  exact ⟨fun q => absurd q hlt, fun _ => ⟨hv, h⟩⟩
theorem nx0 {o : OS} {L a : Int32} {Post : Int32 → OS → Prop} (hL : o.1 0 = L) (ha : o.1 1 = a) (hle : L ≤ a) (h : Post 0 o) : wp_Ord_next o Post := by
  unfold wp_Ord_next
  rw [hL, ha]
  exact ⟨fun _ => h, fun q => absurd hle q⟩
theorem vp100 {i : Nat} (h : i < 100) : vp_in (nI i) 100 := vp_in_nI h (by omega)
theorem ro_0 {o : OS} (h0 : o.1 0 = 0) (h1 : o.1 1 = 0) {Post : Int32 → OS → Prop} (h : ∀ o' : OS, o'.1 0 = 0 → o'.1 1 = 0 → Post 0 o') : wp_Ord_readOrder o Post := by
  unfold wp_Ord_readOrder
  refine nx0 h0 h1 (by decide) ⟨fun q => absurd q (by decide), fun _ => ?_⟩
  unfold wp_Ord_readNumber
  refine nx0 h0 h1 (by decide) ⟨fun _ => ?_, fun q => absurd (by decide) q⟩
  intro u eu
  rw [eu]
  exact ⟨fun _ => h _ h0 h1, fun q => absurd rfl q⟩
theorem ro_3 {o : OS} (h0 : o.1 0 = 3) (h1 : o.1 1 = 0) (t0 : o.2 0 = 48) (t1 : o.2 1 = 43) (t2 : o.2 2 = 51) {Post : Int32 → OS → Prop} (h : ∀ o' : OS, o'.1 0 = 3 → o'.1 1 = 3 → o'.1 2 = 0 → o'.1 3 = 43 → o'.1 4 = 3 → o'.2 = o.2 → Post 1 o') : wp_Ord_readOrder o Post := by
  unfold wp_Ord_readOrder
  refine nx (i := 0) (v := 48) h0 h1 (by decide) (by decide) (vp100 (i := 0) (by omega)) t0 ⟨fun q => absurd q (by decide), fun _ => ?_⟩
  unfold wp_Ord_readNumber
  refine nx (i := 0) (v := 48) h0 h1 (by decide) (by decide) (vp100 (i := 0) (by omega)) t0 ⟨fun q => absurd q (by decide), fun _ => ?_⟩
  refine nx (i := 0) (v := 48) h0 h1 (by decide) (by decide) (vp100 (i := 0) (by omega)) t0 ?_
  intro x5 e5 u6 e6
  have x50 : x5 = 0 := by rw [e5]; decide
  refine ⟨fun _ => ?_, fun q => absurd x50 q⟩
  have b0 : u6.1 0 = 3 := by rw [e6]; exact h0
  have b1 : u6.1 1 = 1 := by
    rw [e6]
    show o.1 1 + 1 = 1
    rw [h1]
    decide
  have bt : u6.2 = o.2 := by rw [e6]; rfl
  intro u5 eu5
  have d0 : u5.1 0 = 3 := by rw [eu5]; exact b0
  have d1 : u5.1 1 = 1 := by rw [eu5]; exact b1
  have d2 : u5.1 2 = 0 := by rw [eu5]; rfl
  have dt : u5.2 = o.2 := by rw [eu5]; exact bt
  rw [d2]
  refine ⟨fun q => absurd q (by decide), fun _ => ?_⟩
  refine nx (i := 1) (v := 43) d0 d1 (by decide) (by decide) (vp100 (i := 1) (by omega)) (by rw [dt]; exact t1) ?_
  intro u8 e8
  have f0 : u8.1 0 = 3 := by rw [e8]; exact d0
  have f1 : u8.1 1 = 1 := by rw [e8]; exact d1
  have f2 : u8.1 2 = 0 := by rw [e8]; exact d2
  have f3 : u8.1 3 = 43 := by rw [e8]; rfl
  have ft : u8.2 = o.2 := by rw [e8]; exact dt
  rw [f3]
  refine ⟨fun _ => ⟨fun q => absurd q (by decide), fun _ => ⟨fun q => absurd q (by decide), fun _ => ⟨fun q => absurd q (by decide), fun _ => ?_⟩⟩⟩, fun q => absurd rfl q⟩
  intro u11 e11
  have g0 : u11.1 0 = 3 := by rw [e11]; exact f0
  have g1 : u11.1 1 = 2 := by
    rw [e11]
    show u8.1 1 + 1 = 2
    rw [f1]
    decide
  have g2 : u11.1 2 = 0 := by rw [e11]; exact f2
  have g3 : u11.1 3 = 43 := by rw [e11]; exact f3
  have gt : u11.2 = o.2 := by rw [e11]; exact ft
  have i2 : u11.2 2 = 51 := by rw [gt]; exact t2
  refine nx (i := 2) (v := 51) g0 g1 (by decide) (by decide) (vp100 (i := 2) (by omega)) i2 ⟨fun q => absurd q (by decide), fun _ => ?_⟩
  refine nx (i := 2) (v := 51) g0 g1 (by decide) (by decide) (vp100 (i := 2) (by omega)) i2 ?_
  intro x5 e5 u6 e6
  have x53 : x5 = 3 := by rw [e5]; decide
  refine ⟨fun q => absurd (x53.symm.trans q) (by decide), fun _ => ⟨2, ?_⟩⟩
  have k0 : u6.1 0 = 3 := by rw [e6]; exact g0
  have k1 : u6.1 1 = 3 := by
    rw [e6]
    show u11.1 1 + 1 = 3
    rw [g1]
    decide
  have k2 : u6.1 2 = 0 := by rw [e6]; exact g2
  have k3 : u6.1 3 = 43 := by rw [e6]; exact g3
  have kt : u6.2 = o.2 := by rw [e6]; exact gt
  unfold wl_Ord_readNumber_38
  refine ⟨fun q => absurd q (by decide), fun _ => nx0 k0 k1 (by decide) ⟨fun _ => ?_, fun q => absurd (by decide) q⟩⟩
  intro u14 e14
  have m4 : u14.1 4 = 3 := by rw [e14]; exact x53
  rw [m4]
  refine ⟨fun q => absurd q (by decide), fun _ => h u14 ?_ ?_ ?_ ?_ m4 ?_⟩
  · rw [e14]; exact k0
  · rw [e14]; exact k1
  · rw [e14]; exact k2
  · rw [e14]; exact k3
  · rw [e14]; exact kt
theorem carry_op {z : ZZ} (h : ZI z) {Post : Int32 → ZZ → Prop} (hK : AK z Post) : wp_Ham_carryOut z Post := by
  have hZ := h
  obtain ⟨hs, ⟨p, n, hp, hn, h0, h1⟩, hf, ht, hc⟩ := h
  have hd : ∀ (e : Int32) (o : OS), e < 0 → TX o → Post e (mkZ (stZ z) z.2.2.2.2.2.1 z.2.2.2.2.2.2.1 o z.2.2.2.2.2.2.2.2) := fun e o he ho => hK.1 _ _ he ⟨hs, ⟨p, n, hp, hn, h0, h1⟩, hf, ho, hc⟩ rfl
  unfold wp_Ham_carryOut wp_Ord_fault
  intro v ev
  have v1 : v.1 1 = 0 := by rw [ev]; rfl
  have v0 : v.1 0 = z.2.2.2.2.2.2.2.1.1 0 := by rw [ev]; rfl
  have vt : v.2 = z.2.2.2.2.2.2.2.1.2 := by rw [ev]; rfl
  refine ⟨2, ?_⟩
  unfold wl_Ord_fault_7
  refine ⟨fun q => absurd q (by decide), fun _ => ?_⟩
  rcases ht with t0 | ⟨t0, ta, tb, tc⟩
  · refine ro_0 (v0.trans t0) v1 (fun o' q0 q1 => ⟨fun _ => ?_, fun q => absurd rfl q⟩)
    rw [q1]
    exact ⟨fun q => absurd q (by decide), fun _ => hd _ o' (by decide) (Or.inl q0)⟩
  · refine ro_3 (v0.trans t0) v1 (by rw [vt]; exact ta) (by rw [vt]; exact tb) (by rw [vt]; exact tc) (fun o' q0 q1 q2 q3 q4 qt => ⟨fun q => absurd q (by decide), fun _ => ?_⟩)
    rw [q0, q1]
    refine ⟨fun q => absurd q (by decide), fun _ => ⟨fun _ => ⟨fun hu => ?_, fun _ => ?_⟩, fun q => absurd rfl q⟩⟩
    · refine t_draft (s := stZ z) hs hp h0 hf (fun a ea ka => ?_)
      have ot : o'.2 = z.2.2.2.2.2.2.2.1.2 := qt.trans vt
      unfold wp_Ord_carryOutOn
      intro y ey
      have y0 : y.1 0 = 3 := by rw [ey]; exact q0
      have y1 : y.1 1 = 0 := by rw [ey]; rfl
      have yt : y.2 = z.2.2.2.2.2.2.2.1.2 := by rw [ey]; exact ot
      refine ⟨2, ?_⟩
      unfold wl_Ord_carryOutOn_9
      refine ⟨fun q => absurd q (by decide), fun _ => ?_⟩
      show (y.1 0 ≤ y.1 1 → _) ∧ (¬ y.1 0 ≤ y.1 1 → _)
      rw [y0, y1]
      refine ⟨fun q => absurd q (by decide), fun _ => ro_3 y0 y1 (by rw [yt]; exact ta) (by rw [yt]; exact tb) (by rw [yt]; exact tc) (fun r r0 r1 r2 r3 r4 rt => ⟨fun q => absurd q (by decide), fun _ => ?_⟩)⟩
      -- the end: the text is empty, the club is c'
      have fin : ∀ (x : Int32) (c' : CS) (o2 : OS), 0 ≤ x → CInv c' → ∀ u6 : OS, u6 = oS o2 0 0 → wp_Ham_recorded (c', z.2.1, z.2.2.1, z.2.2.2.1, z.2.2.2.2.1, z.2.2.2.2.2.1, va_up z.2.2.2.2.2.2.1 p a, u6, z.2.2.2.2.2.2.2.2) x Post := by
        intro x c' o2 hx hc' u6 e6
        rw [e6]
        refine t_rec (s := (c', z.2.1, z.2.2.1, z.2.2.2.1, z.2.2.2.2.1)) (fun q => absurd q (Int32.not_lt.mpr hx)) (fun _ => ?_)
        obtain ⟨k1, k2⟩ := keepH_top (fr := z.2.2.2.2.2.2.1) (s' := (c', z.2.1, z.2.2.1, z.2.2.2.1, z.2.2.2.2.1)) (o := oS o2 0 0) (tr := z.2.2.2.2.2.2.2.2) hp hn h0 h1 ea
        exact hK.2 _ _ hx ⟨⟨hc', hs.2⟩, k1, FI_up hf ka, Or.inl rfl, hc⟩ k2
      unfold wp_Ord_carryOutOrder
      have n43 : ∀ k : Int32, ¬ (43 : Int32) = k → ¬ r.1 3 = k := fun k hk q => hk (r3.symm.trans q)
      refine ⟨fun _ => ?_, fun q => absurd q (n43 45 (by decide)), fun q => absurd q (n43 102 (by decide)), fun q => absurd q (n43 104 (by decide)), fun q => absurd q (n43 108 (by decide)), fun q => absurd q (n43 120 (by decide)), fun q => absurd r3 q⟩
      obtain ⟨w, N, hI⟩ := hs.1
      rcases op_stick hI (r.1 2) (r.1 4) with ⟨e, he, hw⟩ | ⟨x, c', w', N', hx, hc', hw⟩
      · refine hw _ ⟨fun q => absurd he (Int32.not_lt.mpr q), fun _ => ?_⟩
        exact fin 0 z.1 r (by decide) hs.1
      · refine hw _ ⟨fun _ => ?_, fun q => absurd hx q⟩
        intro x7 e7 u8 e8 x9 e9
        have u0 : u8.1 0 = 3 := by rw [e8]; exact r0
        have u1 : u8.1 1 = 4 := by
          rw [e8]
          show r.1 1 + 1 = 4
          rw [r1]
          decide
        unfold wl_Ord_carryOutOn_9
        rw [e9, e7]
        refine ⟨fun q => absurd q (by decide), fun _ => ?_⟩
        show (u8.1 0 ≤ u8.1 1 → _) ∧ (¬ u8.1 0 ≤ u8.1 1 → _)
        rw [u0, u1]
        exact ⟨fun _ => fin (0 + 1) c' u8 (by decide) ⟨w', N', hc'⟩, fun q => absurd (by decide) q⟩
    · refine hd _ o' (by decide) (Or.inr ⟨q0, ?_, ?_, ?_⟩)
      · rw [qt, vt]; exact ta
      · rw [qt, vt]; exact tb
      · rw [qt, vt]; exact tc
theorem a_join {z : ZZ} {Post : Int32 → ZZ → Prop} (h : ZI z) (hK : AKo z Post) : wp_Ham_join z Post := act_op (cw := fun c P => wp_Clb_addMember c P) h (fun w N hI => op_join hI) hK
theorem a_stick {z : ZZ} {p1 p2 : Int32} {Post : Int32 → ZZ → Prop} (h : ZI z) (hK : AKo z Post) : wp_Ham_stick z p1 p2 Post := act_op (cw := fun c P => wp_Clb_stickStamps c p1 p2 P) h (fun w N hI => op_stick hI p1 p2) hK
theorem a_withdraw {z : ZZ} {p1 p2 : Int32} {Post : Int32 → ZZ → Prop} (h : ZI z) (hK : AKo z Post) : wp_Ham_withdraw z p1 p2 Post := act_op (cw := fun c P => wp_Clb_withdrawStamps c p1 p2 P) h (fun w N hI => op_withdraw hI p1 p2) hK
theorem a_mislay {z : ZZ} {p1 : Int32} {Post : Int32 → ZZ → Prop} (h : ZI z) (hK : AKo z Post) : wp_Ham_mislay z p1 Post := act_op (cw := fun c P => wp_Clb_mislayCard c p1 P) h (fun w N hI => op_mislay hI p1) hK
theorem a_find {z : ZZ} {p1 : Int32} {Post : Int32 → ZZ → Prop} (h : ZI z) (hK : AKo z Post) : wp_Ham_find z p1 Post := act_op (cw := fun c P => wp_Clb_findCard c p1 P) h (fun w N hI => op_find hI p1) hK
theorem a_choose {z : ZZ} {p1 p2 : Int32} {Post : Int32 → ZZ → Prop} (h : ZI z) (hK : AKo z Post) : wp_Ham_choose z p1 p2 Post := act_op (cw := fun c P => wp_Clb_chooseKind c p1 p2 P) h (fun w N hI => op_choose hI p1 p2) hK
theorem a_giveUp {z : ZZ} {p1 : Int32} {Post : Int32 → ZZ → Prop} (h : ZI z) (hK : AKo z Post) : wp_Ham_giveUp z p1 Post := act_op (cw := fun c P => wp_Clb_giveUpChoice c p1 P) h (fun w N hI => op_giveUp hI p1) hK
theorem a_setHamper {z : ZZ} {p1 p2 p3 : Int32} {Post : Int32 → ZZ → Prop} (h : ZI z) (hK : AKo z Post) : wp_Ham_setHamper z p1 p2 p3 Post := act_op (cw := fun c P => wp_Clb_changeKind c p1 p2 p3 P) h (fun w N hI => op_setHamper hI p1 p2 p3) hK
theorem a_settle {z : ZZ} {Post : Int32 → ZZ → Prop} (h : ZI z) (hK : AKo z Post) : wp_Ham_settle z Post := act_op (cw := fun c P => wp_Clb_settleAll c P) h (fun w N hI => op_settle hI) hK
theorem a_week {z : ZZ} {Post : Int32 → ZZ → Prop} (h : ZI z) (hK : AKo z Post) : wp_Ham_week z Post := act_op (cw := fun c P => wp_Clb_passWeek c P) h (fun w N hI => op_week hI) hK
theorem acts_30 {z : ZZ} {a1 s0 s1 : Int32} {Post : Int32 → ZZ → Prop} (h : ZI z) (hs : ¬ s0 = 0) (hK : AK z Post) : wb_Law_acts_30 Post a1 s0 s1 z := by
  unfold wb_Law_acts_30
  refine ⟨hs, ?_⟩
  intro x4 _
  exact ⟨fun _ => a_join h hK.o, fun _ => a_join h hK.o, fun _ => a_stick h hK.o, fun _ => a_stick h hK.o, fun _ => a_stick h hK.o, fun _ => a_stick h hK.o, fun _ => a_stick h hK.o, fun _ => a_withdraw h hK.o, fun _ => a_withdraw h hK.o, fun _ => a_mislay h hK.o, fun _ => a_find h hK.o, fun _ => a_choose h hK.o, fun _ => a_choose h hK.o, fun _ => a_choose h hK.o, fun _ => a_giveUp h hK.o, fun _ => a_setHamper h hK.o, fun _ => take_op h hK, fun _ => restore_op h hK, fun _ => ⟨fun _ => a_settle h hK.o, fun _ => carry_op h hK⟩, fun _ _ _ _ _ _ _ _ _ _ _ _ _ _ _ _ _ _ _ => a_week h hK.o⟩
theorem acts_ok {z : ZZ} {y : Int32} {Post : Int32 → ZZ → Prop} (h : ZI z) (hK : AK z Post) : wp_Law_acts z y Post := by
  obtain ⟨w, N, hI⟩ := h.1.1
  have hG := hI.1.2.1
  have hN := hG.2.1
  unfold wp_Law_acts
  refine o_count (z := z) (i := 1) hG (by omega) ?_
  have e1 : cntV z.1 z.2.1 z.2.2.2.1 N 1 = nI N := hG.2.2.2.1
  rw [e1, nI_1]
  have n1 : ¬ nI (N + 1) = 0 := nI_ne0 (by omega) (by omega)
  exact ⟨fun _ => acts_30 h n1 hK, fun _ => ⟨fun _ => acts_30 h n1 hK, fun q => acts_30 h q hK⟩⟩
