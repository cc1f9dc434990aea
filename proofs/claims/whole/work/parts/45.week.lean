/-! What stays as it is; a week on both sides. -/
theorem CMm_eq {c c' : CS} {g g' : Nat → Int32} {m : Nat} (h : CMm c g m) (ha : ∀ a, a ≠ 4 → a ≠ 7 → a ≠ 8 → c'.2.1 a m = c.2.1 a m) (hg : c'.2.2 m = c.2.2 m) (hm : ∀ v, v < 12 → v ≠ 10 → mb g' m v = mb g m v) : CMm c' g' m := by
  obtain ⟨b1, b2, b3, b4, b5, b6, b7, b8, b9, b10⟩ := h
  refine ⟨?_, ?_, ?_, ?_, ?_, ?_, ?_, ?_, ?_, fun i hi => ?_⟩
  · rw [hm 0 (by omega) (by omega), ha 0 (by omega) (by omega) (by omega)]; exact b1
  · rw [hm 1 (by omega) (by omega), ha 1 (by omega) (by omega) (by omega)]; exact b2
  · rw [hm 2 (by omega) (by omega), ha 2 (by omega) (by omega) (by omega)]; exact b3
  · rw [hm 3 (by omega) (by omega), ha 9 (by omega) (by omega) (by omega)]; exact b4
  · rw [hm 4 (by omega) (by omega), ha 9 (by omega) (by omega) (by omega), ha 10 (by omega) (by omega) (by omega)]; exact b5
  · rw [hm 5 (by omega) (by omega), ha 5 (by omega) (by omega) (by omega)]; exact b6
  · rw [hm 6 (by omega) (by omega), ha 3 (by omega) (by omega) (by omega)]; exact b7
  · rw [hm 9 (by omega) (by omega), ha 6 (by omega) (by omega) (by omega)]; exact b8
  · rw [hm 11 (by omega) (by omega), ha 11 (by omega) (by omega) (by omega)]; exact b9
  · rw [hm (7 + i / 31) (by omega) (by omega), hg]; exact b10 i hi
theorem CI_eq {c c' : CS} {w m : Nat} (h : CI c w m) (ha : ∀ a, a ≠ 4 → a ≠ 7 → a ≠ 8 → c'.2.1 a m = c.2.1 a m) (hg : c'.2.2 m = c.2.2 m) : CI c' w m := by
  obtain ⟨⟨s, b1, b1'⟩, b2, b3, b4, b5, b6⟩ := h
  refine ⟨⟨s, ?_, ?_⟩, ?_, ?_, ?_, ?_, ?_⟩
  · rw [ha 0 (by omega) (by omega) (by omega)]; exact b1
  · rw [hg]; exact b1'
  · rw [ha 1 (by omega) (by omega) (by omega)]; exact b2
  · rw [ha 1 (by omega) (by omega) (by omega), ha 2 (by omega) (by omega) (by omega)]; exact b3
  · rw [ha 5 (by omega) (by omega) (by omega)]; exact b4
  · rw [ha 9 (by omega) (by omega) (by omega), ha 10 (by omega) (by omega) (by omega)]; exact b5
  · rw [hg]; exact b6
theorem CO_eq {c c' : CS} {m : Nat} (h : CO c m) (ha : ∀ a, a ≠ 7 → a ≠ 8 → c'.2.1 a m = c.2.1 a m) (hg : c'.2.2 m = c.2.2 m) : CO c' m := by
  obtain ⟨o1, o2, o3, o4, o5, o6, o7, o8, o9, o10⟩ := h
  refine ⟨?_, ?_, ?_, ?_, ?_, ?_, ?_, ?_, ?_, ?_⟩
  · rw [ha 0 (by omega) (by omega)]; exact o1
  · rw [ha 1 (by omega) (by omega)]; exact o2
  · rw [ha 2 (by omega) (by omega)]; exact o3
  · rw [ha 4 (by omega) (by omega)]; exact o4
  · rw [ha 5 (by omega) (by omega)]; exact o5
  · rw [ha 6 (by omega) (by omega)]; exact o6
  · rw [ha 9 (by omega) (by omega)]; exact o7
  · rw [ha 10 (by omega) (by omega)]; exact o8
  · rw [ha 11 (by omega) (by omega)]; exact o9
  · rw [hg]; exact o10
theorem CQ_eq {c c' : CS} {g g' : Nat → Int32} {N k : Nat} (h : CQ c g N k) (hN : N ≤ 12) (h7 : c'.2.1 7 k = c.2.1 7 k) (h8 : c'.2.1 8 k = c.2.1 8 k) (h9 : ∀ m, m < 12 → c'.2.1 9 m = c.2.1 9 m) (h10 : ∀ m, m < 12 → c'.2.1 10 m = c.2.1 10 m) (hk : ∀ v, v < 15 → kd g' k v = kd g k v) : CQ c' g' N k := by
  obtain ⟨d1, d2, d3, n, d4, d5, d6, d7⟩ := h
  refine ⟨by rw [h7, hk 0 (by omega)]; exact d1, by rw [h7]; exact d2, by rw [h8, hk 1 (by omega)]; exact d3, n, d4, by rw [hk 2 (by omega)]; exact d5, fun i hi => ?_, fun m hm e => ?_⟩
  · obtain ⟨m, m1, m2, m3, m4⟩ := d6 i hi
    exact ⟨m, m1, by rw [hk (3 + i) (by omega)]; exact m2, by rw [h9 m (by omega)]; exact m3, by rw [h10 m (by omega)]; exact m4⟩
  · rw [h9 m hm] at e
    rw [h10 m hm]
    rcases d7 m hm e with z | ⟨i, z1, z2, z3⟩
    · exact Or.inl z
    · exact Or.inr ⟨i, z1, z2, by rw [hk (3 + i) (by omega)]; exact z3⟩
theorem CG_eq {c c' : CS} {g g' : Nat → Int32} {w N : Nat} (h : CG c g w N) (a0 : c'.1 0 = c.1 0) (a1 : c'.1 1 = c.1 1) (a4 : c'.1 4 = c.1 4) (g0 : g' 0 = g 0) (g1 : g' 1 = g 1) (g2 : g' 2 = g 2) : CG c' g' w N := by
  obtain ⟨h1, h2, h3, h4, h5, h6, h7, h8⟩ := h
  exact ⟨h1, h2, a0.trans h3, g0.trans h4, a4.trans h5, g1.trans h6, by rw [a1]; exact h7, by rw [g2, a1]; exact h8⟩
theorem upd_o {f : Nat → Int32} {k j : Nat} {v : Int32} (h : j ≠ k) : upd f k v j = f j := if_neg h
theorem upd_s {f : Nat → Int32} {k : Nat} {v : Int32} : upd f k v k = v := if_pos rfl
/-- a new week -/
theorem wk_rel {c : CS} {g : Nat → Int32} {w N : Nat} (h : CRw c g w N) (hw : w < 60) (hu : c.1 1 = 0) : CRw (cS c 0 (c.1 0 + 1)) (setG g 0 (g 0 + 1)) (w + 1) N := by
  obtain ⟨⟨hG, hM, hI, hO, hQ⟩, ⟨⟨a1, a2, a3, a4, a5, a6, a7⟩, a8⟩, hE⟩ := h
  have hN := hG.2.1
  refine ⟨⟨?_, fun m hm => CMm_eq (hM m hm) (fun _ _ _ _ => rfl) rfl (fun v hv _ => mb_setG (by omega)), fun m hm => ?_, fun m h1 h2 => CO_eq (hO m h1 h2) (fun _ _ _ => rfl) rfl, fun q hq => CQ_eq (hQ q hq) hN rfl rfl (fun _ _ => rfl) (fun _ _ => rfl) (fun v hv => kd_setG (by omega))⟩, ⟨⟨a1, a2, a3, a4, a5, a6, fun m hm => by rw [mb_setG (by omega)]; exact a7 m hm⟩, a8⟩, hE⟩
  · obtain ⟨h1, h2, h3, h4, h5, h6, h7, h8⟩ := hG
    refine ⟨by omega, h2, ?_, ?_, h5, h6, h7, h8⟩
    · show (if 0 = 0 then c.1 0 + 1 else c.1 0) = _
      rw [if_pos rfl, h3, nI_1]
    · rw [gl_setG, if_pos rfl, h4, nI_1]
  · obtain ⟨⟨s, b1, b1'⟩, b2, b3, b4, b5, b6⟩ := hI m hm
    have : (if gbit (c.2.2 m) w = true then 5 else 0) ≤ 5 := by split <;> omega
    exact ⟨⟨s, b1, by omega⟩, b2, fun z => (b3 z).elim (fun q hq => ⟨q, by omega, hq.2⟩), b4, b5, fun i h1 h2 => b6 i (by omega) h2⟩
def repC (c : CS) (m : Nat) : CS := cA (cS (cA c 0 (upd (c.2.1 0) m (c.2.1 0 m - c.2.1 0 m / 10))) 6 (c.1 6 + c.2.1 0 m / 10 * 10)) 1 (upd (c.2.1 1) m 0)
def repF (g : Nat → Int32) (m : Nat) : Nat → Int32 := setM (setG (setM g m 0 (mb g m 0 - mb g m 0 / 10)) 4 (g 4 + 10 * (mb g m 0 / 10))) m 1 0
theorem nI_div {a b : Nat} (ha : a < 2 ^ 31) (hb : b < 2 ^ 31) : nI a / nI b = nI (a / b) := by
  apply Int32.toInt_inj.mp
  have h3 : a / b < 2 ^ 31 := Nat.lt_of_le_of_lt (Nat.div_le_self a b) ha
  rw [Int32.toInt_div, nI_toInt ha, nI_toInt hb, nI_toInt h3, ← Int.ofNat_tdiv]
  generalize a / b = q at h3
  rw [Int.bmod_eq_of_le (by omega) (by omega)]
theorem rep_rel {c : CS} {g : Nat → Int32} {w N j : Nat} (h : CRw c g w N) (hj : j < N) (hu : c.1 1 = 0) : CRw (repC c j) (repF g j) w N := by
  obtain ⟨⟨hG, hM, hI, hO, hQ⟩, ⟨⟨a1, a2, a3, a4, a5, a6, a7⟩, a8⟩, hE⟩ := h
  have hN := hG.2.1
  have mr : ∀ m v, v < 13 → mb (repF g j) m v = if m = j ∧ v = 1 then 0 else if m = j ∧ v = 0 then mb g j 0 - mb g j 0 / 10 else mb g m v := by
    intro m v hv
    unfold repF
    rw [mb_setM (by omega) hv, mb_setG (by omega), mb_setM (by omega) hv]
  have gr : ∀ i, i < 10 → repF g j i = if i = 4 then g 4 + 10 * (mb g j 0 / 10) else g i := by
    intro i hi
    unfold repF
    rw [gl_setM hi, gl_setG, gl_setM hi]
  have kr : ∀ q v, q < 4 → v < 15 → kd (repF g j) q v = kd g q v := by
    intro q v hq hv
    unfold repF
    rw [kd_setM hq hv, kd_setG (by omega), kd_setM hq hv]
  have b0j := (hM j hj).1
  refine ⟨⟨CG_eq hG rfl rfl rfl (by rw [gr 0 (by omega), if_neg (by omega)]) (by rw [gr 1 (by omega), if_neg (by omega)]) (by rw [gr 2 (by omega), if_neg (by omega)]), fun m hm => ?_, fun m hm => ?_, fun m h1 h2 => CO_eq (hO m h1 h2) (fun a _ _ => ?_) rfl, fun q hq => CQ_eq (hQ q hq) hN rfl rfl (fun _ _ => rfl) (fun _ _ => rfl) (fun v hv => kr q v hq hv)⟩, ⟨⟨?_, ?_, ?_, ?_, ?_, ?_, fun m hm => ?_⟩, ?_⟩, ⟨hE.1, fun q => absurd (hu.symm.trans q) (by decide)⟩⟩
  · by_cases e : m = j
    · subst e
      obtain ⟨b1, b2, b3, b4, b5, b6, b7, b8, b9, b10⟩ := hM m hm
      refine ⟨?_, ?_, ?_, ?_, ?_, ?_, ?_, ?_, ?_, fun i hi => ?_⟩
      · rw [mr m 0 (by omega), if_neg (by omega), if_pos ⟨rfl, rfl⟩]
        show _ = upd (c.2.1 0) m _ m
        rw [upd_s, b1]
      · rw [mr m 1 (by omega), if_pos ⟨rfl, rfl⟩]
        exact upd_s.symm
      · rw [mr m 2 (by omega), if_neg (by omega), if_neg (by omega)]; exact b3
      · rw [mr m 3 (by omega), if_neg (by omega), if_neg (by omega)]; exact b4
      · rw [mr m 4 (by omega), if_neg (by omega), if_neg (by omega)]; exact b5
      · rw [mr m 5 (by omega), if_neg (by omega), if_neg (by omega)]; exact b6
      · rw [mr m 6 (by omega), if_neg (by omega), if_neg (by omega)]; exact b7
      · rw [mr m 9 (by omega), if_neg (by omega), if_neg (by omega)]; exact b8
      · rw [mr m 11 (by omega), if_neg (by omega), if_neg (by omega)]; exact b9
      · rw [mr m (7 + i / 31) (by omega), if_neg (by omega), if_neg (by omega)]; exact b10 i hi
    · refine CMm_eq (hM m hm) (fun a _ _ _ => ?_) rfl (fun v hv _ => by rw [mr m v (by omega), if_neg (fun z => e z.1), if_neg (fun z => e z.1)])
      show (if a = 1 then upd (c.2.1 1) j 0 else if a = 0 then _ else c.2.1 a) m = c.2.1 a m
      by_cases y1 : a = 1
      · rw [if_pos y1, upd_o e, y1]
      · rw [if_neg y1]
        by_cases y0 : a = 0
        · rw [if_pos y0, upd_o e, y0]
        · rw [if_neg y0]
  · by_cases e : m = j
    · subst e
      obtain ⟨⟨s, b1, b1'⟩, b2, b3, b4, b5, b6⟩ := hI m hm
      have : (if gbit (c.2.2 m) w = true then 5 else 0) ≤ 5 := by split <;> omega
      have hw := hG.1
      refine ⟨⟨s - s / 10, ?_, ?_⟩, ?_, ?_, ?_, ?_, ?_⟩
      · show upd (c.2.1 0) m _ m = _
        rw [upd_s, b1, show (10 : Int32) = nI 10 from rfl, nI_div (by omega) (by omega), pk_sub (by omega)]
      · show s - s / 10 ≤ 5 * w + (if gbit (c.2.2 m) w = true then 5 else 0)
        omega
      · exact Or.inl upd_s
      · intro z
        have z : upd (c.2.1 1) m 0 m = 1 := z
        rw [upd_s] at z
        exact absurd z (by decide)
      · exact b4
      · exact b5
      · exact b6
    · refine CI_eq (hI m hm) (fun a _ _ _ => ?_) rfl
      show (if a = 1 then upd (c.2.1 1) j 0 else if a = 0 then _ else c.2.1 a) m = c.2.1 a m
      by_cases y1 : a = 1
      · rw [if_pos y1, upd_o e, y1]
      · rw [if_neg y1]
        by_cases y0 : a = 0
        · rw [if_pos y0, upd_o e, y0]
        · rw [if_neg y0]
  · have e : m ≠ j := by omega
    show (if a = 1 then upd (c.2.1 1) j 0 else if a = 0 then _ else c.2.1 a) m = c.2.1 a m
    by_cases y1 : a = 1
    · rw [if_pos y1, upd_o e, y1]
    · rw [if_neg y1]
      by_cases y0 : a = 0
      · rw [if_pos y0, upd_o e, y0]
      · rw [if_neg y0]
  · rw [gr 3 (by omega), if_neg (by omega)]; exact a1
  · rw [gr 5 (by omega), if_neg (by omega)]; exact a2
  · rw [gr 6 (by omega), if_neg (by omega)]; exact a3
  · rw [gr 7 (by omega), if_neg (by omega)]; exact a4
  · rw [gr 8 (by omega), if_neg (by omega)]; exact a5
  · rw [gr 9 (by omega), if_neg (by omega)]; exact a6
  · rw [mr m 10 (by omega), if_neg (by omega), if_neg (by omega)]; exact a7 m hm
  · rw [gr 4 (by omega), if_pos rfl, b0j, ← a8, Int32.mul_comm 10]
    rfl
theorem out_repF {g : Nat → Int32} {j i : Nat} (hj : j < 12) (hi : 226 ≤ i) : repF g j i = g i := by
  unfold repF
  rw [out_setM hj (by omega) hi, out_setG (by omega) hi, out_setM hj (by omega) hi]
/-- the loops that replace mislaid cards -/
theorem rep_loop {w N : Nat} : ∀ (n i : Nat) (c : CS) (g : Nat → Int32), CRw c g w N → c.1 1 = 0 → i ≤ N → N - i < n → ∃ (c' : CS) (g' : Nat → Int32), CRw c' g' w N ∧ c'.1 1 = 0 ∧ (∀ o, 226 ≤ o → g' o = g o) ∧ (∀ (Post K : CS → Prop), K c' → wl_Clb_replaceCards_2 Post K n (nI i) c) ∧ ∀ (u : RS) (Post : Int32 → RS → Prop) (K : RS → Prop), u.1 = g → K (rR u g') → wl_Mod_doWeek_12 Post K n (nI i) u := by
  intro n
  induction n with
  | zero => intro i c g _ _ h1 h2; omega
  | succ n ih =>
    intro i c g h hu h1 h2
    have hN := h.1.1.2.1
    have hc4 : c.1 4 = nI N := h.1.1.2.2.2.2.1
    have hg1 : g 1 = nI N := h.1.1.2.2.2.2.2.1
    have hc0 : c.1 0 = nI w := h.1.1.2.2.1
    have hg0 : g 0 = nI w := h.1.1.2.2.2.1
    by_cases hi : i = N
    · subst hi
      refine ⟨c, g, h, hu, fun _ _ => rfl, fun Post K q => ?_, fun u Post K e q => ?_⟩
      · unfold wl_Clb_replaceCards_2
        rw [hc4]
        exact ⟨fun _ => q, fun z => absurd (Int32.le_refl _) z⟩
      · unfold wl_Mod_doWeek_12
        rw [c1, e, hg1]
        rw [← e] at q
        exact ⟨fun _ => q, fun z => absurd (Int32.le_refl _) z⟩
    · have hlt : i < N := by omega
      obtain ⟨b1, b2, b3, b4, b5, b6, b7, b8, b9, b10⟩ := h.1.2.1 i hlt
      have hin : vp_in (nI i) 12 := vp_in_nI (by omega) (by omega)
      have hng : ¬ nI N ≤ nI i := nI_ge hlt (by omega)
      by_cases hs : c.2.1 1 i = 1 ∧ ¬ nI w - c.2.1 2 i < 3
      · obtain ⟨c', g', r1, r2, r3, r4, r5⟩ := ih (i + 1) (repC c i) (repF g i) (rep_rel h hlt hu) hu (by omega) (by omega)
        refine ⟨c', g', r1, r2, fun o ho => (r3 o ho).trans (out_repF (by omega) ho), fun Post K q => ?_, fun u Post K e q => ?_⟩
        · unfold wl_Clb_replaceCards_2
          rw [hc4, hc0]
          simp only [nI_clamp (show i < 2 ^ 31 by omega), forall_eq]
          refine ⟨fun z => absurd z hng, fun _ => ⟨hin, fun _ => ⟨hin, fun z => absurd z hs.2, fun _ => ⟨hin, hin, hin, hin, ?_⟩⟩, fun z => absurd hs.1 z⟩⟩
          rw [nI_1]
          exact r4 Post K q
        · unfold wl_Mod_doWeek_12
          simp only [ofc0 (show i < 12 by omega), ofc1 (show i < 12 by omega), ofc2 (show i < 12 by omega), c0, c1, c4, forall_eq]
          have e0 : u.1 (70 + 13 * i + 1) = c.2.1 1 i := by rw [e]; exact b2
          have e2 : u.1 (70 + 13 * i + 2) = c.2.1 2 i := by rw [e]; exact b3
          rw [e0, e2]
          refine ⟨fun z => ?_, fun _ => ⟨ofi1 (by omega), fun _ => ⟨ofi2 (by omega), fun z => ?_, fun _ => ⟨ofi0 (by omega), ofi0 (by omega), ofi0 (by omega), ofi1 (by omega), ?_⟩⟩, fun z => absurd hs.1 z⟩⟩
          · rw [e, hg1] at z
            exact absurd z hng
          · rw [e, hg0] at z
            exact absurd z hs.2
          · rw [nI_1]
            refine r5 _ Post K ?_ q
            show setM (setG (setM u.1 i 0 (mb u.1 i 0 - mb u.1 i 0 / 10)) 4 (setM u.1 i 0 (mb u.1 i 0 - mb u.1 i 0 / 10) 4 + 10 * (mb u.1 i 0 / 10))) i 1 0 = _
            rw [gl_setM (by omega), e]
            rfl
      · obtain ⟨c', g', r1, r2, r3, r4, r5⟩ := ih (i + 1) c g h hu (by omega) (by omega)
        refine ⟨c', g', r1, r2, r3, fun Post K q => ?_, fun u Post K e q => ?_⟩
        · unfold wl_Clb_replaceCards_2
          rw [hc4, hc0]
          simp only [nI_clamp (show i < 2 ^ 31 by omega), forall_eq]
          have go : wl_Clb_replaceCards_2 Post K n (nI i + 1) c := by rw [nI_1]; exact r4 Post K q
          exact ⟨fun z => absurd z hng, fun _ => ⟨hin, fun z1 => ⟨hin, fun _ => go, fun z2 => absurd ⟨z1, z2⟩ hs⟩, fun _ => go⟩⟩
        · unfold wl_Mod_doWeek_12
          simp only [ofc0 (show i < 12 by omega), ofc1 (show i < 12 by omega), ofc2 (show i < 12 by omega), c0, c1, c4, forall_eq]
          have e0 : u.1 (70 + 13 * i + 1) = c.2.1 1 i := by rw [e]; exact b2
          have e2 : u.1 (70 + 13 * i + 2) = c.2.1 2 i := by rw [e]; exact b3
          have go : wl_Mod_doWeek_12 Post K n (nI i + 1) u := by rw [nI_1]; exact r5 u Post K e q
          rw [e0, e2]
          refine ⟨fun z => ?_, fun _ => ⟨ofi1 (by omega), fun z1 => ⟨ofi2 (by omega), fun _ => go, fun z2 => ?_⟩, fun _ => go⟩⟩
          · rw [e, hg1] at z
            exact absurd z hng
          · rw [e, hg0] at z2
            exact absurd ⟨z1, z2⟩ hs
