/-! Closing the cards on both sides. -/
theorem alg2 (g b R x : Int32) : g + (b + R) + x = g + (x + b) + R := by
  rw [Int32.add_assoc, Int32.add_assoc, Int32.add_assoc, Int32.add_assoc, ← Int32.add_assoc b R x, Int32.add_comm (b + R) x]
theorem alg0 (d x b R : Int32) : d + x + (b + R) = d + R + (x + b) := by
  rw [Int32.add_assoc, Int32.add_assoc, ← Int32.add_assoc x b R, Int32.add_comm (x + b) R]
theorem alg1 (c x R b : Int32) : c - x + R = c + (b + R) - (x + b) := by
  have h : c + (b + R) = c - x + R + (x + b) := by
    rw [← alg0, Int32.sub_add_cancel]
  rw [h, Int32.add_sub_cancel]
theorem alg3 (g b x : Int32) : g + b + x = g + (x + b) + 0 := by
  rw [Int32.add_zero, Int32.add_assoc, Int32.add_comm b x]
def brs (b : Nat → Int32) : Nat → Nat → Int32
  | 0, _ => 0
  | n + 1, i => b i + brs b n (i + 1)
theorem brs_bsum (b : Nat → Int32) : ∀ n i, bsum b i + brs b n i = bsum b (i + n) := by
  intro n
  induction n with
  | zero => intro i; exact Int32.add_zero _
  | succ n ih =>
    intro i
    have := ih (i + 1)
    show bsum b i + (b i + brs b n (i + 1)) = _
    rw [← Int32.add_assoc, show i + (n + 1) = i + 1 + n by omega]
    exact this
def fgC (c : CS) (i : Nat) : CS := cA (cA c 9 (fun m => if m < i then -9 else c.2.1 9 m)) 10 (fun m => if m < i then 0 else c.2.1 10 m)
theorem fg_o {c : CS} {i a : Nat} (h9 : a ≠ 9) (h10 : a ≠ 10) : (fgC c i).2.1 a = c.2.1 a := by
  show (if a = 10 then _ else if a = 9 then _ else c.2.1 a) = _
  rw [if_neg h10, if_neg h9]
theorem fg_9 {c : CS} {i m : Nat} : (fgC c i).2.1 9 m = if m < i then -9 else c.2.1 9 m := rfl
theorem fg_10 {c : CS} {i m : Nat} : (fgC c i).2.1 10 m = if m < i then 0 else c.2.1 10 m := rfl
def closeC (c : CS) (i : Nat) : CS := cA (cA (payC c i (c.2.1 0 i * 10)) 0 (upd (c.2.1 0) i 0)) 1 (upd (c.2.1 1) i 2)
def closeF (g : Nat → Int32) (i : Nat) : Nat → Int32 :=
  let g1 := payF g i (10 * mb g i 0 + mb g i 12)
  setM (setM (setM (setM g1 i 0 0) i 1 2) i 3 (-9)) i 4 0
theorem closeC_o {c : CS} {i m a : Nat} (h : m ≠ i) : (closeC c i).2.1 a m = c.2.1 a m := by
  show (if a = 1 then upd (c.2.1 1) i 2 else if a = 0 then upd (c.2.1 0) i 0 else if a = 4 then upd (c.2.1 4) i (c.2.1 4 i + c.2.1 0 i * 10) else c.2.1 a) m = _
  by_cases e1 : a = 1
  · rw [if_pos e1, upd_o h, e1]
  · rw [if_neg e1]
    by_cases e2 : a = 0
    · rw [if_pos e2, upd_o h, e2]
    · rw [if_neg e2]
      by_cases e3 : a = 4
      · rw [if_pos e3, upd_o h, e3]
      · rw [if_neg e3]
theorem closeC_a {c : CS} {i a : Nat} (h0 : a ≠ 0) (h1 : a ≠ 1) (h4 : a ≠ 4) : (closeC c i).2.1 a = c.2.1 a := by
  show (if a = 1 then upd (c.2.1 1) i 2 else if a = 0 then upd (c.2.1 0) i 0 else if a = 4 then upd (c.2.1 4) i (c.2.1 4 i + c.2.1 0 i * 10) else c.2.1 a) = _
  rw [if_neg h1, if_neg h0, if_neg h4]
theorem mb_closeF {g : Nat → Int32} {i m v : Nat} (hv : v < 13) : mb (closeF g i) m v = if m = i then (if v = 4 then 0 else if v = 3 then -9 else if v = 1 then 2 else if v = 0 then 0 else if v = 10 then mb g i 10 + (10 * mb g i 0 + mb g i 12) else mb g m v) else mb g m v := by
  unfold closeF payF
  simp only [mb_setM (show 4 < 13 by omega) hv, mb_setM (show 3 < 13 by omega) hv, mb_setM (show 1 < 13 by omega) hv, mb_setM (show 0 < 13 by omega) hv, mb_setM (show 10 < 13 by omega) hv, mb_setG (show 3 < 10 by omega), mb_setG (show 6 < 10 by omega)]
  by_cases e : m = i
  · by_cases e1 : v = 4
    · simp [e, e1]
    · by_cases e2 : v = 3
      · simp [e, e2]
      · by_cases e3 : v = 1
        · simp [e, e3]
        · by_cases e4 : v = 0
          · simp [e, e4]
          · by_cases e5 : v = 10
            · simp [e, e5]
            · simp [e, e1, e2, e3, e4, e5]
  · simp [e]
theorem kd_closeF {g : Nat → Int32} {i q v : Nat} (hq : q < 4) (hv : v < 15) : kd (closeF g i) q v = kd g q v := by
  unfold closeF payF
  simp only [kd_setM hq hv, kd_setG (show 3 < 10 by omega), kd_setG (show 6 < 10 by omega)]
theorem gl_closeF {g : Nat → Int32} {i o : Nat} (ho : o < 10) : closeF g i o = if o = 3 then g 3 - (10 * mb g i 0 + mb g i 12) else if o = 6 then g 6 + (10 * mb g i 0 + mb g i 12) else g o := by
  unfold closeF payF
  simp only [gl_setM ho, gl_setG, gl_setM (show 3 < 10 by omega), gl_setM (show 6 < 10 by omega)]
  by_cases e : o = 6
  · simp [e]
  · simp [e]
theorem out_closeF {g : Nat → Int32} {i o : Nat} (hi : i < 12) (ho : 226 ≤ o) : closeF g i o = g o := by
  unfold closeF payF
  simp only [out_setM hi (show 4 < 13 by omega) ho, out_setM hi (show 3 < 13 by omega) ho, out_setM hi (show 1 < 13 by omega) ho, out_setM hi (show 0 < 13 by omega) ho, out_setM hi (show 10 < 13 by omega) ho, out_setG (show 6 < 10 by omega) ho, out_setG (show 3 < 10 by omega) ho]
/-- while the cards are closed, those before i are -/
def CLr (b : Nat → Int32) (hh : Int32) (c : CS) (g : Nat → Int32) (w N n i : Nat) : Prop := CG c g w N ∧ (∀ m, m < N → CMm (fgC c i) g m) ∧ (∀ m, m < 12 → CI (fgC c i) w m) ∧ (∀ m, N ≤ m → m < 12 → CO c m) ∧ (∀ m, m < i → c.2.1 1 m = 2) ∧ CAg (brs b n i) (fun m => if i ≤ m then b m else 0) hh c g N ∧ (∀ m, m < N → mb g m 12 = b m) ∧ (∀ k, k < 4 → c.2.1 7 k = kd g k 0 ∧ (∃ p, 1 ≤ p ∧ p ≤ 200 ∧ c.2.1 7 k = nI p) ∧ c.2.1 8 k = kd g k 1)
theorem close_step {b : Nat → Int32} {hh : Int32} {c : CS} {g : Nat → Int32} {w N n i : Nat} (h : CLr b hh c g w N (n + 1) i) (hi : i < N) : CLr b hh (closeC c i) (closeF g i) w N n (i + 1) := by
  obtain ⟨hG, hM, hI, hO, h2, ⟨a1, a2, a3, a4, a5, a6, a7⟩, h12, hk⟩ := h
  have hN := hG.2.1
  have bi := h12 i hi
  have b0 : mb g i 0 = c.2.1 0 i := by
    have := (hM i hi).1
    rw [fg_o (by omega) (by omega)] at this
    exact this
  have fgs : ∀ a m, m ≠ i → (fgC (closeC c i) (i + 1)).2.1 a m = (fgC c i).2.1 a m := by
    intro a m hm
    by_cases e9 : a = 9
    · subst e9
      rw [fg_9, fg_9, closeC_o hm]
      by_cases z : m < i
      · rw [if_pos z, if_pos (by omega)]
      · rw [if_neg z, if_neg (by omega)]
    · by_cases e10 : a = 10
      · subst e10
        rw [fg_10, fg_10, closeC_o hm]
        by_cases z : m < i
        · rw [if_pos z, if_pos (by omega)]
        · rw [if_neg z, if_neg (by omega)]
      · rw [fg_o e9 e10, fg_o e9 e10, closeC_o hm]
  have fgi : ∀ a, a ≠ 0 → a ≠ 1 → a ≠ 4 → a ≠ 9 → a ≠ 10 → (fgC (closeC c i) (i + 1)).2.1 a i = (fgC c i).2.1 a i := by
    intro a y0 y1 y4 y9 y10
    rw [fg_o y9 y10, fg_o y9 y10, closeC_a y0 y1 y4]
  refine ⟨CG_eq hG rfl rfl rfl (by rw [gl_closeF (by omega), if_neg (by omega), if_neg (by omega)]) (by rw [gl_closeF (by omega), if_neg (by omega), if_neg (by omega)]) (by rw [gl_closeF (by omega), if_neg (by omega), if_neg (by omega)]), fun m hm => ?_, fun m hm => ?_, fun m h1 h2 => CO_eq (hO m h1 h2) (fun a _ _ => closeC_o (by omega)) rfl, fun m hm => ?_, ⟨?_, ?_, ?_, ?_, ?_, ?_, fun m hm => ?_⟩, fun m hm => ?_, fun k hk' => ?_⟩
  · by_cases e : m = i
    · subst e
      obtain ⟨d1, d2, d3, d4, d5, d6, d7, d8, d9, d10⟩ := hM m hm
      refine ⟨?_, ?_, ?_, ?_, ?_, ?_, ?_, ?_, ?_, fun o ho => ?_⟩
      · rw [mb_closeF (by omega), if_pos rfl, if_neg (by omega), if_neg (by omega), if_neg (by omega), if_pos rfl, fg_o (by omega) (by omega)]
        exact upd_s.symm
      · rw [mb_closeF (by omega), if_pos rfl, if_neg (by omega), if_neg (by omega), if_pos rfl, fg_o (by omega) (by omega)]
        exact upd_s.symm
      · rw [mb_closeF (by omega), if_pos rfl, if_neg (by omega), if_neg (by omega), if_neg (by omega), if_neg (by omega), if_neg (by omega), fgi 2 (by omega) (by omega) (by omega) (by omega) (by omega)]; exact d3
      · rw [mb_closeF (by omega), if_pos rfl, if_neg (by omega), if_pos rfl, fg_9, if_pos (Nat.lt_succ_self m)]
      · rw [mb_closeF (by omega), if_pos rfl, if_pos rfl, fg_9, if_pos (Nat.lt_succ_self m), if_neg (fun z => z.1 rfl)]
      · rw [mb_closeF (by omega), if_pos rfl, if_neg (by omega), if_neg (by omega), if_neg (by omega), if_neg (by omega), if_neg (by omega), fgi 5 (by omega) (by omega) (by omega) (by omega) (by omega)]; exact d6
      · rw [mb_closeF (by omega), if_pos rfl, if_neg (by omega), if_neg (by omega), if_neg (by omega), if_neg (by omega), if_neg (by omega), fgi 3 (by omega) (by omega) (by omega) (by omega) (by omega)]; exact d7
      · rw [mb_closeF (by omega), if_pos rfl, if_neg (by omega), if_neg (by omega), if_neg (by omega), if_neg (by omega), if_neg (by omega), fgi 6 (by omega) (by omega) (by omega) (by omega) (by omega)]; exact d8
      · rw [mb_closeF (by omega), if_pos rfl, if_neg (by omega), if_neg (by omega), if_neg (by omega), if_neg (by omega), if_neg (by omega), fgi 11 (by omega) (by omega) (by omega) (by omega) (by omega)]; exact d9
      · rw [mb_closeF (by omega), if_pos rfl, if_neg (by omega), if_neg (by omega), if_neg (by omega), if_neg (by omega), if_neg (by omega)]; exact d10 o ho
    · exact CMm_eq (hM m hm) (fun a _ _ _ => fgs a m e) rfl (fun v hv _ => by rw [mb_closeF (by omega), if_neg e])
  · by_cases e : m = i
    · subst e
      obtain ⟨⟨s, d1, d1'⟩, d2, d3, d4, d5, d6⟩ := hI m hm
      refine ⟨⟨0, ?_, Nat.zero_le _⟩, Or.inr (Or.inr ?_), fun z => ?_, ?_, Or.inl ⟨?_, ?_⟩, d6⟩
      · rw [fg_o (by omega) (by omega)]
        exact upd_s
      · rw [fg_o (by omega) (by omega)]
        exact upd_s
      · rw [fg_o (by omega) (by omega)] at z
        have z : upd (c.2.1 1) m 2 m = 1 := z
        rw [upd_s] at z
        exact absurd z (by decide)
      · rw [fgi 5 (by omega) (by omega) (by omega) (by omega) (by omega)]; exact d4
      · rw [fg_9, if_pos (Nat.lt_succ_self m)]
      · rw [fg_10, if_pos (Nat.lt_succ_self m)]
    · exact CI_eq (hI m hm) (fun a _ _ _ => fgs a m e) rfl
  · by_cases e : m = i
    · subst e
      exact upd_s
    · rw [closeC_o e]
      exact h2 m (by omega)
  · rw [gl_closeF (by omega), if_pos rfl, b0, bi, ← a1, Int32.mul_comm 10]
    exact alg1 _ _ _ _
  · rw [gl_closeF (by omega), if_neg (by omega), if_neg (by omega)]; exact a2
  · rw [gl_closeF (by omega), if_neg (by omega), if_pos rfl, b0, bi, Int32.mul_comm 10]
    show c.1 8 + c.2.1 0 i * 10 = _
    rw [a3]
    exact alg2 _ _ _ _
  · rw [gl_closeF (by omega), if_neg (by omega), if_neg (by omega)]; exact a4
  · rw [gl_closeF (by omega), if_neg (by omega), if_neg (by omega)]; exact a5
  · rw [gl_closeF (by omega), if_neg (by omega), if_neg (by omega)]; exact a6
  · have h7 : c.2.1 4 m = mb g m 10 + (if i ≤ m then b m else 0) := a7 m hm
    show _ = _ + (if i + 1 ≤ m then b m else 0)
    rw [mb_closeF (by omega)]
    by_cases e : m = i
    · subst e
      rw [if_pos (Nat.le_refl m)] at h7
      rw [if_pos rfl, if_neg (by omega), if_neg (by omega), if_neg (by omega), if_neg (by omega), if_pos rfl, if_neg (by omega), b0, bi, Int32.mul_comm 10]
      show upd (c.2.1 4) m (c.2.1 4 m + c.2.1 0 m * 10) m = _
      rw [upd_s, h7]
      exact alg3 _ _ _
    · rw [if_neg e, closeC_o e, h7]
      by_cases z : i ≤ m
      · rw [if_pos z, if_pos (by omega)]
      · rw [if_neg z, if_neg (by omega)]
  · rw [mb_closeF (by omega)]
    by_cases e : m = i
    · rw [if_pos e, if_neg (by omega), if_neg (by omega), if_neg (by omega), if_neg (by omega), if_neg (by omega)]; exact h12 m hm
    · rw [if_neg e]; exact h12 m hm
  · rw [kd_closeF hk' (by omega), kd_closeF hk' (by omega), closeC_a (by omega) (by omega) (by omega), closeC_a (by omega) (by omega) (by omega)]
    exact hk k hk'
theorem close_loop {b : Nat → Int32} {hh : Int32} {w N : Nat} : ∀ (n i : Nat) (c : CS) (g : Nat → Int32), CLr b hh c g w N n i → i + n = N → ∃ (c' : CS) (g' : Nat → Int32), CLr b hh c' g' w N 0 N ∧ c'.1 6 = c.1 6 ∧ g' 8 = g 8 ∧ (∀ o, 226 ≤ o → g' o = g o) ∧ (∀ (Post : Int32 → CS → Prop) (K : CS → Prop), K c' → wl_Clb_settleAll_67 Post K (n + 1) (nI i) c) ∧ ∀ (u : RS) (Post K : Int32 → RS → Prop), u.1 = g → K hh (rR u g') → wl_Mod_doSettle_122 Post K (n + 1) hh (nI i) u := by
  intro n
  induction n with
  | zero =>
    intro i c g h hi
    have : i = N := by omega
    subst this
    refine ⟨c, g, h, rfl, rfl, fun _ _ => rfl, fun Post K q => ?_, fun u Post K e q => ?_⟩
    · unfold wl_Clb_settleAll_67
      rw [h.1.2.2.2.2.1]
      exact ⟨fun _ => q, fun z => absurd (Int32.le_refl _) z⟩
    · unfold wl_Mod_doSettle_122
      rw [c1, e, h.1.2.2.2.2.2.1]
      rw [← e] at q
      exact ⟨fun _ => q, fun z => absurd (Int32.le_refl _) z⟩
  | succ n ih =>
    intro i c g h hi
    have hN := h.1.2.1
    have hin : vp_in (nI i) 12 := vp_in_nI (by omega) (by omega)
    have hng : ¬ nI N ≤ nI i := nI_ge (by omega) (by omega)
    obtain ⟨c', g', r1, r2, r2', r3, r4, r5⟩ := ih (i + 1) (closeC c i) (closeF g i) (close_step h (by omega)) (by omega)
    refine ⟨c', g', r1, r2, r2'.trans (by rw [gl_closeF (by omega), if_neg (by omega), if_neg (by omega)]), fun o ho => (r3 o ho).trans (out_closeF (by omega) ho), fun Post K q => ?_, fun u Post K e q => ?_⟩
    · unfold wl_Clb_settleAll_67
      rw [h.1.2.2.2.2.1, nI_clamp (show i < 2 ^ 31 by omega)]
      refine ⟨fun z => absurd z hng, fun _ => ⟨hin, k_payMember (by omega) ⟨hin, ?_⟩⟩⟩
      simp only [forall_eq, nI_1]
      exact ⟨hin, r4 Post K q⟩
    · unfold wl_Mod_doSettle_122
      rw [c1, e, h.1.2.2.2.2.2.1]
      refine ⟨fun z => absurd z hng, fun _ => ⟨ofi0 (by omega), ofi12 (by omega), t_payOut (by omega) ⟨ofi0 (by omega), ?_⟩⟩⟩
      simp only [forall_eq, nI_1, ofc0 (show i < 12 by omega), ofc1 (show i < 12 by omega), ofc3 (show i < 12 by omega), ofc4 (show i < 12 by omega), ofc12 (show i < 12 by omega)]
      refine ⟨ofi1 (by omega), ofi3 (by omega), ofi4 (by omega), ?_⟩
      refine r5 _ Post K ?_ q
      rw [e]
      rfl
