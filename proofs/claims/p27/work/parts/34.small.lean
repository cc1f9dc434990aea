/-! The accounts; the small actions of a club. -/
def InvA (c : CS) (w N : Nat) : Prop := Base c w N ∧ AccE c N (c.1 6) ∧ c.1 1 = 0 ∧ InvU c w
theorem InvA.inv {c : CS} {w N : Nat} (h : InvA c w N) : Inv c w N := ⟨h.1, ⟨c.1 6, h.2.1, fun _ => rfl⟩, fun _ => h.2.2.2, fun z => absurd (h.2.2.1.symm.trans z) (by decide)⟩
theorem Inv.a {c : CS} {w N : Nat} (h : Inv c w N) (hu : c.1 1 = 0) : InvA c w N := by
  obtain ⟨h1, ⟨R, r1, r2⟩, h3, h4⟩ := h
  have e := r2 hu
  subst e
  exact ⟨h1, r1, hu, h3 hu⟩
theorem Inv.flag {c : CS} {w N : Nat} (h : Inv c w N) : c.1 1 = 0 ∨ c.1 1 = 1 := h.1.2.1.2.2.2.2
theorem InvA_pf {c c' : CS} {w N : Nat} (h : InvA c w N) (hb : Base c' w N) (p : PF c c') : InvA c' w N := by
  obtain ⟨-, hA, hu, hU⟩ := h
  obtain ⟨e1, e2, e3⟩ := p
  have a0 := e2 0 (by omega) (by omega) (by omega)
  have a4 := e2 4 (by omega) (by omega) (by omega)
  have a11 := e2 11 (by omega) (by omega) (by omega)
  have a1 := e2 1 (by omega) (by omega) (by omega)
  have eg : gotF c' = gotF c := by
    funext m
    unfold gotF
    rw [a11]
  have en : nst c' = nst c := by
    funext m
    unfold nst
    rw [a0]
  refine ⟨hb, ?_, by rw [e1]; exact hu, ?_⟩
  · unfold AccE at hA ⊢
    rw [e1, a0, a4, eg]
    exact hA
  · unfold InvU capN at hU ⊢
    rw [a11, a1, e1, en, e3]
    exact hU
def Op (cw : (Int32 → CS → Prop) → Prop) (c : CS) : Prop := (∃ e : Int32, e < 0 ∧ ∀ Post : Int32 → CS → Prop, Post e c → cw Post) ∨ ∃ (x : Int32) (c' : CS) (w N : Nat), 0 ≤ x ∧ Inv c' w N ∧ ∀ Post : Int32 → CS → Prop, Post x c' → cw Post
theorem cA_o {c : CS} {k j a m : Nat} {v : Int32} (h : m ≠ j) : (cA c k (upd (c.2.1 k) j v)).2.1 a m = c.2.1 a m := by
  show (if a = k then upd (c.2.1 k) j v else c.2.1 a) m = c.2.1 a m
  by_cases e : a = k
  · subst e
    rw [if_pos rfl, upd_o h]
  · rw [if_neg e]
theorem cA_n {c : CS} {k a : Nat} {f : Nat → Int32} (h : a ≠ k) : (cA c k f).2.1 a = c.2.1 a := if_neg h
theorem fb_ct_le (p : Nat → Bool) : ∀ n, fb_ct p n ≤ n := by
  intro n
  induction n with
  | zero => exact Nat.le_refl _
  | succ n ih =>
    rw [fb_ct_succ]
    split <;> omega
def stickC (c : CS) (j : Nat) (k : Int32) (w : Nat) : CS :=
  let c1 := cL c (vp_updL c.2.2 j (c.2.2 j ||| (1 <<< ((nI w).toInt64 &&& 63))))
  let c2 := cA c1 6 (upd (c1.2.1 6) j (nI w))
  let c3 := cA c2 0 (upd (c2.2.1 0) j (c2.2.1 0 j + k))
  let c4 := cS c3 5 (c3.1 5 + k * 10)
  cS c4 7 (c4.1 7 + k * 10)
def charge (k : Int32) : Int32 := if 10 * k ≤ k + 5 then 10 * k else k + 5
def payC (c : CS) (j : Nat) (v : Int32) : CS :=
  let c1 := cS c 5 (c.1 5 - v)
  let c2 := cS c1 8 (c1.1 8 + v)
  cA c2 4 (upd (c2.2.1 4) j (c2.2.1 4 j + v))
def wdC (c : CS) (j : Nat) (k : Int32) : CS :=
  let c1 := cA c 0 (upd (c.2.1 0) j (c.2.1 0 j - k))
  let c2 := cA c1 5 (upd (c1.2.1 5) j 1)
  let c3 := cS c2 6 (c2.1 6 + charge k)
  payC c3 j (10 * k - charge k)
def misC (c : CS) (j : Nat) : CS :=
  let c1 := cA c 1 (upd (c.2.1 1) j 1)
  cA c1 2 (upd (c1.2.1 2) j (c1.1 0))
def findC (c : CS) (j : Nat) : CS := cA c 1 (upd (c.2.1 1) j 0)
def hamC (c : CS) (k : Nat) (p s : Int32) : CS := cA (cA c 7 (upd (c.2.1 7) k p)) 8 (upd ((cA c 7 (upd (c.2.1 7) k p)).2.1 8) k s)
def joinC (c : CS) (j : Nat) : CS := cS (cA c 3 (upd (c.2.1 3) j (c.1 0))) 4 ((cA c 3 (upd (c.2.1 3) j (c.1 0))).1 4 + 1)
theorem charge_eq (k : Int32) : (if k * 10 < k + 5 then k * 10 else k + 5) = charge k := by
  unfold charge
  rw [Int32.mul_comm k 10]
  by_cases h : 10 * k < k + 5
  · rw [if_pos h, if_pos (Int32.le_of_lt h)]
  · rw [if_neg h]
    by_cases h2 : 10 * k ≤ k + 5
    · rw [if_pos h2]
      exact Int32.le_antisymm (Int32.not_lt.mp h) h2
    · rw [if_neg h2]
theorem charge_nn {n : Nat} (h : n ≤ 999) (h1 : 1 ≤ n) : 0 ≤ 10 * nI n - charge (nI n) := by
  unfold charge
  rw [show (10 : Int32) = nI 10 from rfl, show (5 : Int32) = nI 5 from rfl, pk_mul, nI_add]
  by_cases h2 : nI (10 * n) ≤ nI (n + 5)
  · rw [if_pos h2, pk_sub (Nat.le_refl _), Nat.sub_self]
    decide
  · rw [if_neg h2]
    have h3 : ¬ 10 * n ≤ n + 5 := fun q => h2 (nI_le q (by omega))
    rw [pk_sub (by omega)]
    exact nI_nn (by omega)
theorem k_payMember {c : CS} {j : Nat} {v : Int32} {Post : CS → Prop} (hj : j < 12) (h : Post (payC c j v)) : wp_Clb_payMember c (nI j) v Post := by
  unfold wp_Clb_payMember wp_Acc_payOut
  simp only [nI_clamp (show j < 2 ^ 31 by omega), forall_eq]
  exact ⟨vp_in_nI hj (by omega), vp_in_nI hj (by omega), h⟩
theorem stick_o {c : CS} {j w a m : Nat} {k : Int32} (h : m ≠ j) : (stickC c j k w).2.1 a m = c.2.1 a m :=
  (cA_o (c := cA (cL c (vp_updL c.2.2 j (c.2.2 j ||| (1 <<< ((nI w).toInt64 &&& 63))))) 6 (upd (c.2.1 6) j (nI w))) h).trans (cA_o (c := cL c (vp_updL c.2.2 j (c.2.2 j ||| (1 <<< ((nI w).toInt64 &&& 63))))) h)
theorem Lat_up {g : Int64} {l : Int32} {w i : Nat} (h : Lat g l w) (hi : w < i) (h64 : i < 64) : gbit g i = false := by
  rcases h with z | ⟨q, z1, -, -, z4⟩
  · exact z.2 i h64
  · exact z4 i (by omega) h64
theorem stick_inv {c : CS} {w N j kk : Nat} (h : InvA c w N) (hj : j < N) (hk : kk ≤ 5) (hb : gbit (c.2.2 j) w = false) : InvA (stickC c j (nI kk) w) w N := by
  obtain ⟨hB, ⟨a1, a2, a3, a4⟩, hu, hU1, P, p1, p2⟩ := h
  obtain ⟨hC, hG, hM, hO, hQ⟩ := id hB
  have hw := hG.1
  have hN := hG.2.1
  have hj12 : j < 12 := by omega
  obtain ⟨⟨m1, m2⟩, m3, m4, m5, m6, m7, m8⟩ := hM j hj12
  have eg : ∀ i, i < 64 → gbit ((stickC c j (nI kk) w).2.2 j) i = (gbit (c.2.2 j) i || decide (i = w)) := fun i hi => by
    show gbit (vp_updL c.2.2 j _ j) i = _
    rw [updL_if, if_pos rfl, cls_set (by omega) hi]
  have ego : ∀ m, m ≠ j → (stickC c j (nI kk) w).2.2 m = c.2.2 m := fun m hm => by
    show vp_updL c.2.2 j _ m = _
    rw [updL_if, if_neg hm]
  have w1 : wk5 (c.2.2 j) w = 5 * w := by
    unfold wk5
    rw [hb]
    rfl
  have w2 : wk5 ((stickC c j (nI kk) w).2.2 j) w = 5 * w + 5 := by
    unfold wk5
    rw [eg w (by omega)]
    simp
  have e0 : (stickC c j (nI kk) w).2.1 0 j = nI (nst c j + kk) := by
    show upd (c.2.1 0) j (c.2.1 0 j + nI kk) j = _
    rw [upd_s, m1, nI_add]
  have n0 : nst (stickC c j (nI kk) w) j = nst c j + kk := by
    have : nst (stickC c j (nI kk) w) j = ((stickC c j (nI kk) w).2.1 0 j).toNatClampNeg := rfl
    rw [this, e0, nI_clamp (by omega)]
  have ns := nsum_one (f := nst c) (g := nst (stickC c j (nI kk) w)) hj12 (fun m _ hm => nst_eq (stick_o hm))
  have cp := nsum_one (f := fun m => 10 * wk5 (c.2.2 m) w) (g := fun m => 10 * wk5 ((stickC c j (nI kk) w).2.2 m) w) hj12 (fun m _ hm => by
    show 10 * wk5 ((stickC c j (nI kk) w).2.2 m) w = 10 * wk5 (c.2.2 m) w
    rw [ego m hm])
  have bs := bsum_one (f := c.2.1 0) (g := (stickC c j (nI kk) w).2.1 0) hj (fun m _ hm => stick_o hm)
  have bj : (stickC c j (nI kk) w).2.1 0 j = c.2.1 0 j + nI kk := upd_s
  refine ⟨Base_of hB ?_ (InvG_eq hG rfl rfl rfl) (fun m hm => ?_) (fun m h1 h2 => ?_) (Nat.le_refl N) (fun _ _ => rfl) (fun _ _ => rfl) (fun _ _ => rfl) (fun _ _ => rfl), ⟨?_, ?_, a3, a4⟩, hu, hU1, P, p1, ?_⟩
  · refine Can_cS (Can_cS (Can_up (k := 0) (Can_up (k := 6) (Can_cL hC (fun m hm => ?_)) (by omega) hj12) (by omega) hj12) (by omega)) (by omega)
    rw [updL_if, if_neg (by omega)]
    exact hC.2.2 m hm
  · by_cases e : m = j
    · subst e
      refine ⟨⟨by rw [n0]; exact e0, by rw [n0, w2]; omega⟩, m3, m4, m5, m6, m7, Or.inr ⟨w, Nat.le_refl w, upd_s, by rw [eg w (by omega)]; simp, fun i h1 h2 => ?_⟩⟩
      rw [eg i h2, Lat_up m8 h1 h2]
      simp
      omega
    · exact InvM_eq (hM m hm) (fun a _ _ _ _ => stick_o e) (ego m e)
  · exact InvO_eq (hO m h1 h2) (fun a _ _ _ => stick_o (by omega)) (ego m (by omega))
  · show c.1 5 + nI kk * 10 = 10 * bsum ((stickC c j (nI kk) w).2.1 0) N + c.1 6
    rw [bs, bj, a1]
    grind
  · show c.1 7 + nI kk * 10 = c.1 5 + nI kk * 10 + c.1 8 + c.1 9
    rw [a2]
    grind
  · show 10 * nsum (nst (stickC c j (nI kk) w)) 12 + P ≤ nsum (fun m => 10 * wk5 ((stickC c j (nI kk) w).2.2 m) w) 12
    have p2 : 10 * nsum (nst c) 12 + P ≤ nsum (fun m => 10 * wk5 (c.2.2 m) w) 12 := p2
    simp only [w1, w2] at cp
    omega
theorem op_stick {c : CS} {w N : Nat} (h : Inv c w N) (p k : Int32) : Op (fun P => wp_Clb_stickStamps c p k P) c := by
  have hG := h.1.2.1
  have hN := hG.2.1
  have hw := hG.1
  have hc4 := hG.2.2.2.1
  have hc0 := hG.2.2.1
  by_cases hA : isM N p ∧ 1 ≤ k.toInt ∧ k.toInt ≤ 5
  · obtain ⟨hM, hk⟩ := hA
    obtain ⟨j, hj, rfl⟩ := isM_of hM hN
    obtain ⟨kk, hkk, ek⟩ := lit_of (n := 5) (by omega) (by omega) hk.2
    have cls : ∀ Post : Int32 → CS → Prop, ((¬ c.2.1 1 j = 0 ∨ gbit (c.2.2 j) w = true) → Post (-2) c) → (c.2.1 1 j = 0 → ¬ gbit (c.2.2 j) w = true → Post ((stickC c j k w).2.1 0 j) (stickC c j k w)) → wp_Clb_stickStamps c (nI j) k Post := by
      intro Post q1 q2
      unfold wp_Clb_stickStamps
      refine k_exists hc4 hN (fun _ => ⟨fun q => absurd q (by decide), fun _ => ?_⟩) (fun q => absurd hM q)
      refine ⟨fun q => absurd (Int32.lt_iff_toInt_lt.mp q) (by show ¬ k.toInt < 1; omega), fun _ => ⟨fun _ => ?_, fun q => absurd (Int32.le_iff_toInt_le.mpr (show k.toInt ≤ (5 : Int32).toInt from hk.2)) q⟩⟩
      refine k_inHand (by omega) (fun q3 => ⟨fun q => absurd q (by decide), fun _ => ?_⟩) (fun q3 => ⟨fun _ => q1 (Or.inl q3), fun q => absurd rfl q⟩)
      rw [hc0]
      refine k_goodIn (by omega) (by omega) (fun q4 => ⟨fun q => absurd q (by decide), fun _ => q1 (Or.inr q4)⟩) (fun q4 => ⟨fun _ => ?_, fun q => absurd rfl q⟩)
      have q5 := q2 q3 q4
      unfold wp_Crd_makeGood wp_Acc_takeIn
      have hin : vp_in (nI j) 12 := vp_in_nI (by omega) (by omega)
      simp only [nI_clamp (show j < 2 ^ 31 by omega), forall_eq, hc0]
      exact ⟨hin, hin, hin, hin, hin, hin, q5⟩
    by_cases hB : ¬ c.2.1 1 j = 0 ∨ gbit (c.2.2 j) w = true
    · exact Or.inl ⟨-2, by decide, fun Post q => cls Post (fun _ => q) (fun q1 q2 => absurd hB (fun z => z.elim (fun z => z q1) q2))⟩
    · have hs : c.2.1 1 j = 0 := Classical.not_not.mp (fun z => hB (Or.inl z))
      have hb' : gbit (c.2.2 j) w = false := by
        have : ¬ gbit (c.2.2 j) w = true := fun z => hB (Or.inr z)
        simpa using this
      have hu : c.1 1 = 0 := h.flag.resolve_right (fun z => by
        have := (h.2.2.2 z).1 j hj
        rw [hs] at this
        exact absurd this (by decide))
      have hr := stick_inv (h.a hu) hj hkk hb'
      rw [← ek] at hr
      have m1 := (hr.1.2.2.1 j (by omega)).1
      refine Or.inr ⟨(stickC c j k w).2.1 0 j, stickC c j k w, w, N, ?_, hr.inv, fun Post q => cls Post (fun z => absurd z hB) (fun _ _ => q)⟩
      rw [m1.1]
      have := wk5_le (g := (stickC c j k w).2.2 j) hw
      exact nI_nn (by omega)
  · refine Or.inl ⟨-1, by decide, fun Post q => ?_⟩
    show wp_Clb_stickStamps c p k Post
    unfold wp_Clb_stickStamps
    refine k_exists hc4 hN (fun hM => ⟨fun q => absurd q (by decide), fun _ => ?_⟩) (fun _ => ⟨fun _ => q, fun z => absurd rfl z⟩)
    refine ⟨fun _ => q, fun q1 => ⟨fun q2 => absurd ⟨hM, ?_, ?_⟩ hA, fun _ => q⟩⟩
    · have : ¬ k.toInt < 1 := fun z => q1 (Int32.lt_iff_toInt_lt.mpr z)
      omega
    · exact Int32.le_iff_toInt_le.mp q2
theorem charge_nat {n : Nat} (h : n ≤ 999) : ∃ x, x ≤ 10 * n ∧ charge (nI n) = nI x := by
  unfold charge
  rw [show (10 : Int32) = nI 10 from rfl, show (5 : Int32) = nI 5 from rfl, pk_mul, nI_add]
  by_cases h2 : nI (10 * n) ≤ nI (n + 5)
  · rw [if_pos h2]
    exact ⟨10 * n, Nat.le_refl _, rfl⟩
  · rw [if_neg h2]
    exact ⟨n + 5, by have : ¬ 10 * n ≤ n + 5 := fun q => h2 (nI_le q (by omega)); omega, rfl⟩
theorem wd_o {c : CS} {j a m : Nat} {k : Int32} (h : m ≠ j) : (wdC c j k).2.1 a m = c.2.1 a m := by
  show (if a = 4 then upd (c.2.1 4) j _ else if a = 5 then upd (c.2.1 5) j 1 else if a = 0 then upd (c.2.1 0) j _ else c.2.1 a) m = _
  by_cases e4 : a = 4
  · rw [if_pos e4, upd_o h, e4]
  · rw [if_neg e4]
    by_cases e5 : a = 5
    · rw [if_pos e5, upd_o h, e5]
    · rw [if_neg e5]
      by_cases e0 : a = 0
      · rw [if_pos e0, upd_o h, e0]
      · rw [if_neg e0]
theorem wd_inv {c : CS} {w N j kk : Nat} (h : InvA c w N) (hj : j < N) (hk : kk ≤ 999) (hs : kk ≤ nst c j) : InvA (wdC c j (nI kk)) w N := by
  obtain ⟨hB, ⟨a1, a2, a3, a4⟩, hu, hU1, P, p1, p2⟩ := h
  obtain ⟨hC, hG, hM, hO, hQ⟩ := id hB
  have hw := hG.1
  have hN := hG.2.1
  have hj12 : j < 12 := by omega
  obtain ⟨⟨m1, m2⟩, m3, m4, m5, m6, m7, m8⟩ := hM j hj12
  obtain ⟨x, x1, x2⟩ := charge_nat hk
  have e0 : (wdC c j (nI kk)).2.1 0 j = nI (nst c j - kk) := by
    show upd (c.2.1 0) j (c.2.1 0 j - nI kk) j = _
    rw [upd_s, m1, pk_sub hs]
  have hle := wk5_le (g := c.2.2 j) hw
  have n0 : nst (wdC c j (nI kk)) j = nst c j - kk := by
    have : nst (wdC c j (nI kk)) j = ((wdC c j (nI kk)).2.1 0 j).toNatClampNeg := rfl
    rw [this, e0, nI_clamp (by omega)]
  have ns := nsum_one (f := nst c) (g := nst (wdC c j (nI kk))) hj12 (fun m _ hm => nst_eq (wd_o hm))
  have bs := bsum_one (f := c.2.1 0) (g := (wdC c j (nI kk)).2.1 0) hj (fun m _ hm => wd_o hm)
  have bj : (wdC c j (nI kk)).2.1 0 j = c.2.1 0 j - nI kk := upd_s
  have bp := bsum_one (f := c.2.1 4) (g := (wdC c j (nI kk)).2.1 4) hj (fun m _ hm => wd_o hm)
  have bpj : (wdC c j (nI kk)).2.1 4 j = c.2.1 4 j + (10 * nI kk - charge (nI kk)) := upd_s
  refine ⟨Base_of hB ?_ (InvG_eq hG rfl rfl rfl) (fun m hm => ?_) (fun m h1 h2 => ?_) (Nat.le_refl N) (fun _ _ => rfl) (fun _ _ => rfl) (fun _ _ => rfl) (fun _ _ => rfl), ⟨?_, ?_, ?_, a4⟩, hu, hU1, P + x, ?_, ?_⟩
  · exact Can_up (k := 4) (Can_cS (Can_cS (Can_cS (Can_up (k := 5) (Can_up (k := 0) hC (by omega) hj12) (by omega) hj12) (by omega)) (by omega)) (by omega)) (by omega) hj12
  · by_cases e : m = j
    · subst e
      exact ⟨⟨by rw [n0]; exact e0, by rw [n0]; show nst c m - kk ≤ wk5 (c.2.2 m) w; omega⟩, m3, m4, Or.inr upd_s, m6, m7, m8⟩
    · exact InvM_eq (hM m hm) (fun a _ _ _ _ => wd_o e) rfl
  · exact InvO_eq (hO m h1 h2) (fun a _ _ _ => wd_o (by omega)) rfl
  · show c.1 5 - (10 * nI kk - charge (nI kk)) = 10 * bsum ((wdC c j (nI kk)).2.1 0) N + (c.1 6 + charge (nI kk))
    rw [bs, bj, a1]
    grind
  · show c.1 7 = c.1 5 - (10 * nI kk - charge (nI kk)) + (c.1 8 + (10 * nI kk - charge (nI kk))) + c.1 9
    rw [a2]
    grind
  · show c.1 8 + (10 * nI kk - charge (nI kk)) = bsum ((wdC c j (nI kk)).2.1 4) N
    rw [bp, bpj, a3]
    grind
  · show c.1 6 + charge (nI kk) = _
    rw [p1, x2, nI_add]
  · show 10 * nsum (nst (wdC c j (nI kk))) 12 + (P + x) ≤ capN c w
    omega
theorem op_withdraw {c : CS} {w N : Nat} (h : Inv c w N) (p k : Int32) : Op (fun P => wp_Clb_withdrawStamps c p k P) c := by
  have hG := h.1.2.1
  have hN := hG.2.1
  have hw := hG.1
  have hc4 := hG.2.2.2.1
  by_cases hA : isM N p ∧ 1 ≤ k.toInt ∧ k.toInt ≤ 999
  · obtain ⟨hM, hk⟩ := hA
    obtain ⟨j, hj, rfl⟩ := isM_of hM hN
    obtain ⟨n, hn, ek⟩ := lit_of (n := 999) (by omega) (by omega) hk.2
    have hn1 : 1 ≤ n := by
      have := hk.1
      rw [ek, nI_toInt (by omega)] at this
      omega
    have cls : ∀ Post : Int32 → CS → Prop, ((¬ c.2.1 1 j = 0 ∨ c.2.1 0 j < k) → Post (-2) c) → (c.2.1 1 j = 0 → ¬ c.2.1 0 j < k → Post (10 * k - charge k) (wdC c j k)) → wp_Clb_withdrawStamps c (nI j) k Post := by
      intro Post q1 q2
      unfold wp_Clb_withdrawStamps
      refine k_exists hc4 hN (fun _ => ⟨fun q => absurd q (by decide), fun _ => ?_⟩) (fun q => absurd hM q)
      refine ⟨fun q => absurd (Int32.lt_iff_toInt_lt.mp q) (by show ¬ k.toInt < 1; omega), fun _ => ⟨fun _ => ?_, fun q => absurd (Int32.le_iff_toInt_le.mpr (show k.toInt ≤ (999 : Int32).toInt from hk.2)) q⟩⟩
      refine k_inHand (by omega) (fun q3 => ⟨fun q => absurd q (by decide), fun _ => ?_⟩) (fun q3 => ⟨fun _ => q1 (Or.inl q3), fun q => absurd rfl q⟩)
      have hin : vp_in (nI j) 12 := vp_in_nI (by omega) (by omega)
      simp only [nI_clamp (show j < 2 ^ 31 by omega), forall_eq, charge_eq]
      refine ⟨hin, fun q4 => ?_, fun q4 => q1 (Or.inr (Int32.not_le.mp q4))⟩
      have q5 := q2 q3 (Int32.not_lt.mpr q4)
      refine ⟨hin, hin, hin, k_payMember (by omega) ?_⟩
      unfold wdC at q5
      rw [Int32.mul_comm k 10]
      exact q5
    by_cases hB : ¬ c.2.1 1 j = 0 ∨ c.2.1 0 j < k
    · exact Or.inl ⟨-2, by decide, fun Post q => cls Post (fun _ => q) (fun q1 q2 => absurd hB (fun z => z.elim (fun z => z q1) q2))⟩
    · have hs : c.2.1 1 j = 0 := Classical.not_not.mp (fun z => hB (Or.inl z))
      have hb : ¬ c.2.1 0 j < k := fun z => hB (Or.inr z)
      have hu : c.1 1 = 0 := h.flag.resolve_right (fun z => by
        have := (h.2.2.2 z).1 j hj
        rw [hs] at this
        exact absurd this (by decide))
      obtain ⟨m1, m2⟩ := (h.1.2.2.1 j (by omega)).1
      have hle := wk5_le (g := c.2.2 j) hw
      have hns : n ≤ nst c j := by
        rw [m1, ek] at hb
        exact Nat.le_of_not_lt (fun q => hb (nI_lt q (by omega)))
      have hr := wd_inv (h.a hu) hj hn hns
      rw [← ek] at hr
      exact Or.inr ⟨10 * k - charge k, wdC c j k, w, N, by rw [ek]; exact charge_nn hn hn1, hr.inv, fun Post q => cls Post (fun z => absurd z hB) (fun _ _ => q)⟩
  · refine Or.inl ⟨-1, by decide, fun Post q => ?_⟩
    show wp_Clb_withdrawStamps c p k Post
    unfold wp_Clb_withdrawStamps
    refine k_exists hc4 hN (fun hM => ⟨fun q => absurd q (by decide), fun _ => ?_⟩) (fun _ => ⟨fun _ => q, fun z => absurd rfl z⟩)
    refine ⟨fun _ => q, fun q1 => ⟨fun q2 => absurd ⟨hM, ?_, ?_⟩ hA, fun _ => q⟩⟩
    · have : ¬ k.toInt < 1 := fun z => q1 (Int32.lt_iff_toInt_lt.mpr z)
      omega
    · exact Int32.le_iff_toInt_le.mp q2
/-- a change of the status alone (and of the week in which a card was mislaid) -/
theorem stat_inv {c : CS} {w N j : Nat} {v u : Int32} (h : InvA c w N) (hj : j < N) (hv : v = 0 ∨ v = 1) (hu : v = 1 → ∃ q, q ≤ w ∧ u = nI q) : InvA (cA (cA c 1 (upd (c.2.1 1) j v)) 2 (upd (c.2.1 2) j u)) w N := by
  obtain ⟨hB, hA, hf, hU1, P, p1, p2⟩ := h
  obtain ⟨hC, hG, hM, hO, hQ⟩ := id hB
  have hN := hG.2.1
  have hj12 : j < 12 := by omega
  have o : ∀ a m, m ≠ j → (cA (cA c 1 (upd (c.2.1 1) j v)) 2 (upd (c.2.1 2) j u)).2.1 a m = c.2.1 a m := fun a m hm => (cA_o (c := cA c 1 (upd (c.2.1 1) j v)) hm).trans (cA_o hm)
  have s1 : (cA (cA c 1 (upd (c.2.1 1) j v)) 2 (upd (c.2.1 2) j u)).2.1 1 j = v := upd_s
  have s2 : (cA (cA c 1 (upd (c.2.1 1) j v)) 2 (upd (c.2.1 2) j u)).2.1 2 j = u := upd_s
  have v2 : ¬ v = 2 := fun z => by
    rcases hv with y | y
    · exact absurd (y.symm.trans z) (by decide)
    · exact absurd (y.symm.trans z) (by decide)
  refine ⟨Base_of hB (Can_up (k := 2) (Can_up (k := 1) hC (by omega) hj12) (by omega) hj12) (InvG_eq hG rfl rfl rfl) (fun m hm => ?_) (fun m h1 h2 => InvO_eq (hO m h1 h2) (fun a _ _ _ => o a m (by omega)) rfl) (Nat.le_refl N) (fun _ _ => rfl) (fun _ _ => rfl) (fun _ _ => rfl) (fun _ _ => rfl), hA, hf, fun m hm => ⟨(hU1 m hm).1, ?_⟩, P, p1, p2⟩
  · by_cases e : m = j
    · subst e
      obtain ⟨m1, m3, m4, m5, m6, m7, m8⟩ := hM m hm
      refine ⟨m1, ?_, fun z => ?_, m5, m6, m7, m8⟩
      · rw [s1]
        exact hv.elim Or.inl (fun z => Or.inr (Or.inl z))
      · rw [s1] at z
        rw [s2]
        exact hu z
    · exact InvM_eq (hM m hm) (fun a _ _ _ _ => o a m e) rfl
  · by_cases e : m = j
    · subst e
      rw [s1]
      exact v2
    · rw [o 1 m e]
      exact (hU1 m hm).2
theorem op_mislay {c : CS} {w N : Nat} (h : Inv c w N) (p : Int32) : Op (fun P => wp_Clb_mislayCard c p P) c := by
  have hG := h.1.2.1
  have hN := hG.2.1
  have hw := hG.1
  have hc4 := hG.2.2.2.1
  have hc0 := hG.2.2.1
  by_cases hM : isM N p
  · obtain ⟨j, hj, rfl⟩ := isM_of hM hN
    have cls : ∀ Post : Int32 → CS → Prop, (¬ c.2.1 1 j = 0 → Post (-2) c) → (c.2.1 1 j = 0 → Post (c.1 0 + 3) (misC c j)) → wp_Clb_mislayCard c (nI j) Post := by
      intro Post q1 q2
      unfold wp_Clb_mislayCard
      refine k_exists hc4 hN (fun _ => ⟨fun q => absurd q (by decide), fun _ => ?_⟩) (fun q => absurd hM q)
      refine k_inHand (by omega) (fun q3 => ⟨fun q => absurd q (by decide), fun _ => ?_⟩) (fun q3 => ⟨fun _ => q1 q3, fun q => absurd rfl q⟩)
      have hin : vp_in (nI j) 12 := vp_in_nI (by omega) (by omega)
      simp only [nI_clamp (show j < 2 ^ 31 by omega), forall_eq]
      exact ⟨hin, hin, q2 q3⟩
    by_cases hs : c.2.1 1 j = 0
    · have hu : c.1 1 = 0 := h.flag.resolve_right (fun z => by
        have := (h.2.2.2 z).1 j hj
        rw [hs] at this
        exact absurd this (by decide))
      refine Or.inr ⟨c.1 0 + 3, misC c j, w, N, ?_, (stat_inv (v := 1) (u := c.1 0) (h.a hu) hj (Or.inr rfl) (fun _ => ⟨w, Nat.le_refl w, hc0⟩)).inv, fun Post q => cls Post (fun z => absurd hs z) (fun _ => q)⟩
      rw [hc0, show (3 : Int32) = nI 3 from rfl, nI_add]
      exact nI_nn (by omega)
    · exact Or.inl ⟨-2, by decide, fun Post q => cls Post (fun _ => q) (fun z => absurd z hs)⟩
  · refine Or.inl ⟨-1, by decide, fun Post q => ?_⟩
    show wp_Clb_mislayCard c p Post
    unfold wp_Clb_mislayCard
    exact k_exists hc4 hN (fun z => absurd z hM) (fun _ => ⟨fun _ => q, fun z => absurd rfl z⟩)
theorem cA_upd_self (c : CS) (k j : Nat) : cA c k (upd (c.2.1 k) j (c.2.1 k j)) = c := by
  have e : upd (c.2.1 k) j (c.2.1 k j) = c.2.1 k := by
    funext m
    rw [upd_if]
    by_cases z : m = j
    · rw [if_pos z, z]
    · rw [if_neg z]
  rw [e, cA_self]
theorem op_find {c : CS} {w N : Nat} (h : Inv c w N) (p : Int32) : Op (fun P => wp_Clb_findCard c p P) c := by
  have hG := h.1.2.1
  have hN := hG.2.1
  have hw := hG.1
  have hc4 := hG.2.2.2.1
  have hc0 := hG.2.2.1
  by_cases hM : isM N p
  · obtain ⟨j, hj, rfl⟩ := isM_of hM hN
    have hin : vp_in (nI j) 12 := vp_in_nI (by omega) (by omega)
    have cls : ∀ Post : Int32 → CS → Prop, (¬ c.2.1 1 j = 1 → Post (-2) c) → (c.2.1 1 j = 1 → Post (c.1 0 - c.2.1 2 j) (findC c j)) → wp_Clb_findCard c (nI j) Post := by
      intro Post q1 q2
      unfold wp_Clb_findCard
      refine k_exists hc4 hN (fun _ => ⟨fun q => absurd q (by decide), fun _ => ?_⟩) (fun q => absurd hM q)
      simp only [nI_clamp (show j < 2 ^ 31 by omega), forall_eq]
      exact ⟨hin, fun q3 => ⟨hin, hin, q2 q3⟩, fun q3 => q1 q3⟩
    by_cases hs : c.2.1 1 j = 1
    · have hu : c.1 1 = 0 := h.flag.resolve_right (fun z => by
        have := (h.2.2.2 z).1 j hj
        rw [hs] at this
        exact absurd this (by decide))
      obtain ⟨q, q1, q2⟩ := (h.1.2.2.1 j (by omega)).2.2.1 hs
      have hr := stat_inv (v := 0) (u := c.2.1 2 j) (h.a hu) hj (Or.inl rfl) (fun z => absurd z (by decide))
      have e : cA (cA c 1 (upd (c.2.1 1) j 0)) 2 (upd (c.2.1 2) j (c.2.1 2 j)) = findC c j := cA_upd_self (cA c 1 (upd (c.2.1 1) j 0)) 2 j
      rw [e] at hr
      refine Or.inr ⟨c.1 0 - c.2.1 2 j, findC c j, w, N, ?_, hr.inv, fun Post q => cls Post (fun z => absurd hs z) (fun _ => q)⟩
      rw [hc0, q2, pk_sub q1]
      exact nI_nn (by omega)
    · exact Or.inl ⟨-2, by decide, fun Post q => cls Post (fun _ => q) (fun z => absurd z hs)⟩
  · refine Or.inl ⟨-1, by decide, fun Post q => ?_⟩
    show wp_Clb_findCard c p Post
    unfold wp_Clb_findCard
    exact k_exists hc4 hN (fun z => absurd z hM) (fun _ => ⟨fun _ => q, fun z => absurd rfl z⟩)
theorem ch_cases {c : CS} {w N j : Nat} (h : Base c w N) (hj : j < 12) : c.2.1 9 j = -9 ∨ ∃ k, k < 4 ∧ c.2.1 9 j = nI k :=
  (h.2.2.1 j hj).2.2.2.2.1.elim (fun z => Or.inl z.1) Or.inr
theorem op_giveUp {c : CS} {w N : Nat} (h : Inv c w N) (p : Int32) : Op (fun P => wp_Clb_giveUpChoice c p P) c := by
  have hG := h.1.2.1
  have hN := hG.2.1
  have hc4 := hG.2.2.2.1
  by_cases hM : isM N p
  · obtain ⟨j, hj, rfl⟩ := isM_of hM hN
    have hin : vp_in (nI j) 12 := vp_in_nI (by omega) (by omega)
    rcases ch_cases h.1 (show j < 12 by omega) with hc | ⟨k, hk, hc⟩
    · refine Or.inl ⟨-2, by decide, fun Post q => ?_⟩
      show wp_Clb_giveUpChoice c (nI j) Post
      unfold wp_Clb_giveUpChoice
      refine k_exists hc4 hN (fun _ => ⟨fun q => absurd q (by decide), fun _ => ?_⟩) (fun q => absurd hM q)
      simp only [nI_clamp (show j < 2 ^ 31 by omega), forall_eq, hc]
      exact ⟨hin, fun _ => q, fun z => absurd hamK9 z⟩
    · have hu : c.1 1 = 0 := h.flag.resolve_right (fun z => neg9_ne hk (((h.2.2.2 z).2.1 j (by omega)).2.symm.trans hc))
      obtain ⟨x, c', hx, hb, hd, hcl⟩ := drop_base h.1 hj hk hc
      refine Or.inr ⟨nI k, c', w, N, nI_nn (by omega), (InvA_pf (h.a hu) hb hd.pf).inv, fun Post q => ?_⟩
      show wp_Clb_giveUpChoice c (nI j) Post
      unfold wp_Clb_giveUpChoice
      refine k_exists hc4 hN (fun _ => ⟨fun q => absurd q (by decide), fun _ => ?_⟩) (fun q => absurd hM q)
      simp only [nI_clamp (show j < 2 ^ 31 by omega), forall_eq, hc]
      exact ⟨hin, fun z => absurd z (hamK1 hk), fun _ => hcl _ q⟩
  · refine Or.inl ⟨-1, by decide, fun Post q => ?_⟩
    show wp_Clb_giveUpChoice c p Post
    unfold wp_Clb_giveUpChoice
    exact k_exists hc4 hN (fun z => absurd z hM) (fun _ => ⟨fun _ => q, fun z => absurd rfl z⟩)
/-- choosing: refused for the same kind, or made -/
theorem choose_ok {c : CS} {w N j i : Nat} (h : Inv c w N) (hj : j < N) (hi : i < 4) (hu : c.1 1 = 0) (hne : ¬ c.2.1 9 j = nI i) : ∃ (x : Int32) (c' : CS), 0 ≤ x ∧ Inv c' w N ∧ PF c c' ∧ ∀ Post : Int32 → CS → Prop, Post x c' → wp_Clb_chooseKind c (nI j) (nI i) Post := by
  have hG := h.1.2.1
  have hN := hG.2.1
  have hc4 := hG.2.2.2.1
  have hM := isM_nI hj hN
  have hin : vp_in (nI j) 12 := vp_in_nI (by omega) (by omega)
  rcases ch_cases h.1 (show j < 12 by omega) with hc | ⟨k, hk, hc⟩
  · obtain ⟨x, c', hx, hb, hpf, hcl⟩ := put_base h.1 hj hi hc
    refine ⟨x, c', hx, (InvA_pf (h.a hu) hb hpf).inv, hpf, fun Post q => ?_⟩
    unfold wp_Clb_chooseKind
    refine k_exists hc4 hN (fun _ => ⟨fun q => absurd q (by decide), fun _ => ?_⟩) (fun q => absurd hM q)
    simp only [nI_clamp (show j < 2 ^ 31 by omega), forall_eq]
    refine ⟨fun z => absurd z (hamK1 hi), fun _ => ⟨hin, fun _ => ⟨fun z => absurd z hne, fun _ => ⟨fun _ => hcl _ q, fun z => absurd ?_ z⟩⟩, fun z => absurd hu z⟩⟩
    rw [hc]
    exact hamK9
  · obtain ⟨x1, c1, hx1, hb1, hd1, hcl1⟩ := drop_base h.1 hj hk hc
    have hc1 : c1.2.1 9 j = -9 := by
      rw [hd1.2.2.2.1]
      exact upd_s
    obtain ⟨x, c', hx, hb, hpf, hcl⟩ := put_base hb1 hj hi hc1
    refine ⟨x, c', hx, (InvA_pf (h.a hu) hb (hd1.pf.trans hpf)).inv, hd1.pf.trans hpf, fun Post q => ?_⟩
    unfold wp_Clb_chooseKind
    refine k_exists hc4 hN (fun _ => ⟨fun q => absurd q (by decide), fun _ => ?_⟩) (fun q => absurd hM q)
    simp only [nI_clamp (show j < 2 ^ 31 by omega), forall_eq]
    refine ⟨fun z => absurd z (hamK1 hi), fun _ => ⟨hin, fun _ => ⟨fun z => absurd z hne, fun _ => ⟨fun z => absurd z ?_, fun _ => ?_⟩⟩, fun z => absurd hu z⟩⟩
    · rw [hc]
      exact hamK1 hk
    · rw [hc]
      exact hcl1 _ (hcl _ q)
theorem choose_no {c : CS} {w N j i : Nat} (h : Inv c w N) (hj : j < N) (hi : i < 4) (hB : c.1 1 = 1 ∨ c.2.1 9 j = nI i) (Post : Int32 → CS → Prop) (q : Post (-2) c) : wp_Clb_chooseKind c (nI j) (nI i) Post := by
  have hG := h.1.2.1
  have hN := hG.2.1
  have hc4 := hG.2.2.2.1
  have hM := isM_nI hj hN
  have hin : vp_in (nI j) 12 := vp_in_nI (by omega) (by omega)
  unfold wp_Clb_chooseKind
  refine k_exists hc4 hN (fun _ => ⟨fun q => absurd q (by decide), fun _ => ?_⟩) (fun q => absurd hM q)
  simp only [nI_clamp (show j < 2 ^ 31 by omega), forall_eq]
  refine ⟨fun z => absurd z (hamK1 hi), fun _ => ⟨hin, fun z => ⟨fun _ => q, fun z2 => ?_⟩, fun _ => q⟩⟩
  exact absurd hB (fun y => y.elim (fun y => absurd (z.symm.trans y) (by decide)) z2)
theorem op_choose {c : CS} {w N : Nat} (h : Inv c w N) (p k : Int32) : Op (fun P => wp_Clb_chooseKind c p k P) c := by
  have hG := h.1.2.1
  have hN := hG.2.1
  have hc4 := hG.2.2.2.1
  by_cases hA : isM N p ∧ isK k
  · obtain ⟨hM, hK⟩ := hA
    obtain ⟨j, hj, rfl⟩ := isM_of hM hN
    obtain ⟨i, hi, rfl⟩ := isK_of hK
    by_cases hB : c.1 1 = 1 ∨ c.2.1 9 j = nI i
    · exact Or.inl ⟨-2, by decide, fun Post q => choose_no h hj hi hB Post q⟩
    · obtain ⟨x, c', h1, h2, -, h4⟩ := choose_ok h hj hi (h.flag.resolve_right (fun z => hB (Or.inl z))) (fun z => hB (Or.inr z))
      exact Or.inr ⟨x, c', w, N, h1, h2, h4⟩
  · refine Or.inl ⟨-1, by decide, fun Post q => ?_⟩
    show wp_Clb_chooseKind c p k Post
    unfold wp_Clb_chooseKind
    exact k_exists hc4 hN (fun hM => ⟨fun q => absurd q (by decide), fun _ => ⟨fun _ => q, fun z => absurd (hamK.mpr (fun y => hA ⟨hM, y⟩)) z⟩⟩) (fun _ => ⟨fun _ => q, fun z => absurd rfl z⟩)
