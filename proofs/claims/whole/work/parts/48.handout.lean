/-! Handing out on both sides. -/
def kept (c : CS) (k m : Nat) : Prop := c.2.1 9 m = nI k ∧ c.2.1 10 m = 0
def ms (c : CS) (k : Nat) : Nat := fb_ct (fun m => decide (c.2.1 9 m = nI k)) 12
theorem ms_pos {c : CS} {k q : Nat} (hq : q < 12) (h : c.2.1 9 q = nI k) : 0 < ms c k := by
  rcases Nat.eq_zero_or_pos (ms c k) with z | z
  · have := fb_ct_zero.mp z q hq
    exact absurd h (of_decide_eq_false this)
  · exact z
theorem ms_drop {c c' : CS} {k q : Nat} (hq : q < 12) (hk : k < 4) (h : c.2.1 9 q = nI k) (h9 : c'.2.1 9 = upd (c.2.1 9) q (-9)) : ms c' k + 1 = ms c k := by
  have e := fb_ct_upd (fun m => decide (c.2.1 9 m = nI k)) false hq
  have e2 : fb_ct (fun m => if m = q then false else decide (c.2.1 9 m = nI k)) 12 = ms c' k := by
    refine fb_ct_cong (fun m hm => ?_)
    show (if m = q then false else decide (c.2.1 9 m = nI k)) = decide (c'.2.1 9 m = nI k)
    rw [h9, upd_if]
    by_cases z : m = q
    · rw [if_pos z, if_pos z]
      exact (decide_eq_false (neg9_ne hk)).symm
    · rw [if_neg z, if_neg z]
  rw [e2] at e
  have e3 : decide (c.2.1 9 q = nI k) = true := decide_eq_true h
  simp only [e3, if_true] at e
  unfold ms at e ⊢
  simpa using e
theorem ms_le (c : CS) (k : Nat) : ms c k ≤ 12 := by
  have go : ∀ (p : Nat → Bool) n, fb_ct p n ≤ n := by
    intro p n
    induction n with
    | zero => exact Nat.le_refl _
    | succ n ih =>
      rw [fb_ct_succ]
      split <;> omega
  exact go _ 12
/-- one is handed out -/
def handC (c : CS) (j k : Nat) (p : Int32) : CS :=
  let c1 := cA c 0 (upd (c.2.1 0) j (c.2.1 0 j - p))
  let c2 := cS c1 5 (c1.1 5 - p * 10)
  let c3 := cS c2 9 (c2.1 9 + p * 10)
  let c4 := cA c3 11 (upd (c3.2.1 11) j (nI k))
  let c5 := cA c4 9 (upd (c4.2.1 9) j (-9))
  cS c5 2 (c5.1 2 + 1)
def handF (g : Nat → Int32) (j k : Nat) (p : Int32) : Nat → Int32 :=
  let g1 := setM g j 0 (mb g j 0 - p)
  let g2 := setG g1 3 (g1 3 - 10 * p)
  let g3 := setG g2 7 (g2 7 + 10 * p)
  let g4 := setM g3 j 11 (nI k)
  let g5 := setM g4 j 3 (-9)
  setM g5 j 4 0
theorem mb_handF {g : Nat → Int32} {j k m v : Nat} {p : Int32} (hv : v < 13) : mb (handF g j k p) m v = if m = j then (if v = 4 then 0 else if v = 3 then -9 else if v = 11 then nI k else if v = 0 then mb g j 0 - p else mb g m v) else mb g m v := by
  unfold handF
  simp only [mb_setM (show 4 < 13 by omega) hv, mb_setM (show 3 < 13 by omega) hv, mb_setM (show 11 < 13 by omega) hv, mb_setG (show 7 < 10 by omega), mb_setG (show 3 < 10 by omega), mb_setM (show 0 < 13 by omega) hv]
  by_cases e : m = j
  · by_cases e1 : v = 4
    · simp [e, e1]
    · by_cases e2 : v = 3
      · simp [e, e2]
      · by_cases e3 : v = 11
        · simp [e, e3]
        · by_cases e4 : v = 0
          · simp [e, e4]
          · simp [e, e1, e2, e3, e4]
  · simp [e]
theorem kd_handF {g : Nat → Int32} {j k q v : Nat} {p : Int32} (hq : q < 4) (hv : v < 15) : kd (handF g j k p) q v = kd g q v := by
  unfold handF
  simp only [kd_setM hq hv, kd_setG (show 7 < 10 by omega), kd_setG (show 3 < 10 by omega)]
theorem gl_handF {g : Nat → Int32} {j k i : Nat} {p : Int32} (hi : i < 10) : handF g j k p i = if i = 3 then g 3 - 10 * p else if i = 7 then g 7 + 10 * p else g i := by
  unfold handF
  simp only [gl_setM hi, gl_setG, gl_setM (show 3 < 10 by omega), gl_setM (show 7 < 10 by omega)]
  by_cases e : i = 7
  · simp [e]
  · simp [e]
theorem out_handF {g : Nat → Int32} {j k i : Nat} {p : Int32} (hj : j < 12) (hi : 226 ≤ i) : handF g j k p i = g i := by
  unfold handF
  simp only [out_setM hj (show 4 < 13 by omega) hi, out_setM hj (show 3 < 13 by omega) hi, out_setM hj (show 11 < 13 by omega) hi, out_setG (show 7 < 10 by omega) hi, out_setG (show 3 < 10 by omega) hi, out_setM hj (show 0 < 13 by omega) hi]
theorem handC_a {c : CS} {j k m a : Nat} {p : Int32} (h : m ≠ j) : (handC c j k p).2.1 a m = c.2.1 a m := by
  show (if a = 9 then upd (c.2.1 9) j (-9) else if a = 11 then upd (c.2.1 11) j (nI k) else if a = 0 then upd (c.2.1 0) j (c.2.1 0 j - p) else c.2.1 a) m = _
  by_cases e1 : a = 9
  · rw [if_pos e1, upd_o h, e1]
  · rw [if_neg e1]
    by_cases e2 : a = 11
    · rw [if_pos e2, upd_o h, e2]
    · rw [if_neg e2]
      by_cases e3 : a = 0
      · rw [if_pos e3, upd_o h, e3]
      · rw [if_neg e3]
theorem hand_cp {c : CS} {g : Nat → Int32} {w N j k p : Nat} (h : CP c g w N) (hj : j < N) (hk : k < 4) (hkp : kept c k j) (hp : p ≤ st c j) : CP (handC c j k (nI p)) (handF g j k (nI p)) w N := by
  obtain ⟨hG, hM, hI, hO, hQ⟩ := h
  have hN := hG.2.1
  refine ⟨CG_eq hG rfl rfl rfl (by rw [gl_handF (by omega), if_neg (by omega), if_neg (by omega)]) (by rw [gl_handF (by omega), if_neg (by omega), if_neg (by omega)]) (by rw [gl_handF (by omega), if_neg (by omega), if_neg (by omega)]), fun m hm => ?_, fun m hm => ?_, fun m h1 h2 => CO_eq (hO m h1 h2) (fun a _ _ => handC_a (by omega)) rfl, fun q hq => ?_⟩
  · by_cases e : m = j
    · subst e
      obtain ⟨b1, b2, b3, b4, b5, b6, b7, b8, b9, b10⟩ := hM m hm
      refine ⟨?_, ?_, ?_, ?_, ?_, ?_, ?_, ?_, ?_, fun i hi => ?_⟩
      · rw [mb_handF (by omega), if_pos rfl, if_neg (by omega), if_neg (by omega), if_neg (by omega), if_pos rfl, b1]
        exact upd_s.symm
      · rw [mb_handF (by omega), if_pos rfl, if_neg (by omega), if_neg (by omega), if_neg (by omega), if_neg (by omega)]; exact b2
      · rw [mb_handF (by omega), if_pos rfl, if_neg (by omega), if_neg (by omega), if_neg (by omega), if_neg (by omega)]; exact b3
      · rw [mb_handF (by omega), if_pos rfl, if_neg (by omega), if_pos rfl]
        exact upd_s.symm
      · rw [mb_handF (by omega), if_pos rfl, if_pos rfl]
        have : (handC c m k (nI p)).2.1 9 m = -9 := upd_s
        rw [if_neg (fun z => z.1 this)]
      · rw [mb_handF (by omega), if_pos rfl, if_neg (by omega), if_neg (by omega), if_neg (by omega), if_neg (by omega)]; exact b6
      · rw [mb_handF (by omega), if_pos rfl, if_neg (by omega), if_neg (by omega), if_neg (by omega), if_neg (by omega)]; exact b7
      · rw [mb_handF (by omega), if_pos rfl, if_neg (by omega), if_neg (by omega), if_neg (by omega), if_neg (by omega)]; exact b8
      · rw [mb_handF (by omega), if_pos rfl, if_neg (by omega), if_neg (by omega), if_pos rfl]
        exact upd_s.symm
      · rw [mb_handF (by omega), if_pos rfl, if_neg (by omega), if_neg (by omega), if_neg (by omega), if_neg (by omega)]; exact b10 i hi
    · exact CMm_eq (hM m hm) (fun a _ _ _ => handC_a e) rfl (fun v hv _ => by rw [mb_handF (by omega), if_neg e])
  · by_cases e : m = j
    · subst e
      obtain ⟨⟨s', b1, b1'⟩, b2, b3, b4, b5, b6⟩ := hI m hm
      have hw := hG.1
      have : (if gbit (c.2.2 m) w = true then 5 else 0) ≤ 5 := by split <;> omega
      have es : st c m = s' := by
        unfold st
        rw [b1, nI_clamp (by omega)]
      rw [es] at hp
      refine ⟨⟨s' - p, ?_, by show s' - p ≤ 5 * w + (if gbit (c.2.2 m) w = true then 5 else 0); omega⟩, b2, b3, b4, Or.inl ⟨upd_s, hkp.2⟩, b6⟩
      show upd (c.2.1 0) m _ m = _
      rw [upd_s, b1, pk_sub hp]
    · exact CI_eq (hI m hm) (fun a _ _ _ => handC_a e) rfl
  · obtain ⟨d1, d2, d3, n, d4, d5, d6, d7⟩ := hQ q hq
    have c9 : ∀ m, (handC c j k (nI p)).2.1 9 m = if m = j then -9 else c.2.1 9 m := fun m => rfl
    have c10 : ∀ m, (handC c j k (nI p)).2.1 10 m = c.2.1 10 m := fun m => rfl
    refine ⟨by rw [kd_handF hq (by omega)]; exact d1, d2, by rw [kd_handF hq (by omega)]; exact d3, n, d4, by rw [kd_handF hq (by omega)]; exact d5, fun i hi => ?_, fun m hm h9 => ?_⟩
    · obtain ⟨m, m1, m2, m3, m4⟩ := d6 i hi
      have hmj : m ≠ j := by
        intro em
        subst em
        exact absurd (m4.symm.trans hkp.2) (ne0 (by omega))
      exact ⟨m, m1, by rw [kd_handF hq (by omega)]; exact m2, by rw [c9, if_neg hmj]; exact m3, by rw [c10]; exact m4⟩
    · rw [c9] at h9
      by_cases hmj : m = j
      · rw [if_pos hmj] at h9
        exact absurd h9 (neg9_ne hq)
      · rw [if_neg hmj] at h9
        rw [c10]
        rcases d7 m hm h9 with z | ⟨i, z1, z2, z3⟩
        · exact Or.inl z
        · exact Or.inr ⟨i, z1, z2, by rw [kd_handF hq (by omega)]; exact z3⟩
