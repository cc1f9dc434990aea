/-! Bonuses on both sides. -/
def st (c : CS) (m : Nat) : Nat := (c.2.1 0 m).toNatClampNeg
def shr (c : CS) (m : Nat) : Bool := decide (c.2.1 5 m = 0 ∧ 0 < st c m)
def shN (c : CS) : Nat → Nat
  | 0 => 0
  | n + 1 => shN c n + (if shr c n = true then st c n else 0)
def bon (c : CS) (N m : Nat) : Int32 := if shr c m = true then c.1 6 * c.2.1 0 m / nI (shN c N) else 0
theorem st_eq {c : CS} {w m : Nat} (h : CI c w m) (hw : w ≤ 60) : c.2.1 0 m = nI (st c m) ∧ st c m ≤ 305 := by
  obtain ⟨⟨s, b1, b1'⟩, -⟩ := h
  have : (if gbit (c.2.2 m) w = true then 5 else 0) ≤ 5 := by split <;> omega
  have e : st c m = s := by
    unfold st
    rw [b1, nI_clamp (by omega)]
  rw [e]
  exact ⟨b1, by omega⟩
theorem shN_le {c : CS} {M : Nat} (h : ∀ m, m < M → st c m ≤ 305) : ∀ i, i ≤ M → shN c i ≤ 305 * i := by
  intro i
  induction i with
  | zero => intro _; exact Nat.le_refl _
  | succ i ih =>
    intro hi
    have := ih (by omega)
    have := h i (by omega)
    show shN c i + (if shr c i = true then st c i else 0) ≤ _
    split <;> omega
theorem shN_ge {c : CS} {m : Nat} (h : shr c m = true) : ∀ i, m < i → st c m ≤ shN c i := by
  intro i
  induction i with
  | zero => intro h; omega
  | succ i ih =>
    intro hi
    show _ ≤ shN c i + (if shr c i = true then st c i else 0)
    by_cases e : m = i
    · subst e
      rw [if_pos h]
      omega
    · have := ih (by omega)
      omega
theorem shr_pos {c : CS} {m : Nat} (h : shr c m = true) : 0 < st c m := (of_decide_eq_true h).2
theorem lt1 {n : Nat} (h : n < 1000) : nI n < 1 ↔ n = 0 := by
  constructor
  · intro q
    rcases Nat.eq_zero_or_pos n with z | z
    · exact z
    · exact absurd q (Int32.not_lt.mpr (show nI 1 ≤ nI n from nI_le z (by omega)))
  · intro q
    subst q
    decide
theorem le0 {n : Nat} (h : n < 1000) : nI n ≤ 0 ↔ n = 0 := by
  rw [show (0 : Int32) = nI 0 from rfl, nI_leI (by omega) (by omega)]
  omega
theorem k_shares {c : CS} {w j : Nat} {Post : Int32 → CS → Prop} (hj : j < 12) (hI : CI c w j) (hw : w ≤ 60) (h1 : shr c j = true → Post 1 c) (h0 : ¬ shr c j = true → Post 0 c) : wp_Crd_shares c (nI j) Post := by
  have hin : vp_in (nI j) 12 := vp_in_nI hj (by omega)
  obtain ⟨e1, e2⟩ := st_eq hI hw
  unfold wp_Crd_shares
  rw [nI_clamp (show j < 2 ^ 31 by omega), e1, lt1 (by omega)]
  refine ⟨hin, fun q => ⟨hin, fun z => h0 (fun y => ?_), fun z => h1 (decide_eq_true ⟨q, by omega⟩)⟩, fun q => h0 (fun y => q (of_decide_eq_true y).1)⟩
  have := shr_pos y
  omega
theorem s_shares {c : CS} {u : RS} {w j : Nat} {Post : Int32 → RS → Prop} (hj : j < 12) (hI : CI c w j) (hw : w ≤ 60) (b0 : mb u.1 j 0 = c.2.1 0 j) (b5 : mb u.1 j 5 = c.2.1 5 j) (h1 : shr c j = true → Post 1 u) (h0 : ¬ shr c j = true → Post 0 u) : wp_Mod_shares u (nI j) Post := by
  obtain ⟨e1, e2⟩ := st_eq hI hw
  unfold wp_Mod_shares
  have b0 : u.1 (70 + 13 * j + 0) = c.2.1 0 j := b0
  have b5 : u.1 (70 + 13 * j + 5) = c.2.1 5 j := b5
  rw [ofc5 hj, ofc0 hj, b0, b5, e1, le0 (by omega)]
  refine ⟨ofi5 hj, fun q => ⟨ofi0 hj, fun z => h0 (fun y => ?_), fun z => h1 (decide_eq_true ⟨q, by omega⟩)⟩, fun q => h0 (fun y => q (of_decide_eq_true y).1)⟩
  have := shr_pos y
  omega
theorem shN_s (c : CS) (n : Nat) : shN c (n + 1) = shN c n + (if shr c n = true then st c n else 0) := rfl
theorem k_shared {c : CS} {w N : Nat} {Post : Int32 → CS → Prop} (hc4 : c.1 4 = nI N) (hN : N ≤ 12) (hw : w ≤ 60) (hI : ∀ m, m < 12 → CI c w m) (h : Post (nI (shN c N)) c) : wp_Crd_sharedStamps c Post := by
  have go : ∀ n i, i ≤ N → N - i < n → wl_Crd_sharedStamps_4 Post (fun x u => Post x u) n (nI (shN c i)) (nI i) c := by
    intro n
    induction n with
    | zero => intro i h1 h2; omega
    | succ n ih =>
      intro i h1 h2
      unfold wl_Crd_sharedStamps_4
      rw [hc4]
      refine ⟨fun q => ?_, fun q => ?_⟩
      · have : i = N := by
          rcases Nat.lt_or_ge i N with z | z
          · exact absurd q (nI_ge z (by omega))
          · omega
        subst this
        exact h
      · have hi : i < N := Nat.lt_of_not_le (fun z => q (nI_le z (by omega)))
        obtain ⟨e1, e2⟩ := st_eq (hI i (by omega)) hw
        have hs := shN_s c i
        refine k_shares (by omega) (hI i (by omega)) hw (fun z => ⟨fun y => absurd y (by decide), fun _ => ?_⟩) (fun z => ⟨fun _ => ?_, fun y => absurd rfl y⟩)
        · rw [if_pos z] at hs
          refine ⟨vp_in_nI (by omega) (by omega), ?_⟩
          rw [nI_clamp (by omega), e1, nI_add, ← hs]
          intro x ex y ey
          rw [ex, ey, nI_1]
          exact ih (i + 1) (by omega) (by omega)
        · rw [if_neg z] at hs
          intro x ex y ey
          rw [ex, ey, nI_1, Int32.add_zero, show shN c i = shN c (i + 1) by omega]
          exact ih (i + 1) (by omega) (by omega)
  exact ⟨N + 1, go (N + 1) 0 (by omega) (by omega)⟩
theorem k_bonus {c : CS} {w N j : Nat} {Post : Int32 → CS → Prop} (hc4 : c.1 4 = nI N) (hN : N ≤ 12) (hw : w ≤ 60) (hI : ∀ m, m < 12 → CI c w m) (hj : j < N) (h : Post (bon c N j) c) : wp_Clb_bonusOf c (nI j) Post := by
  unfold wp_Clb_bonusOf
  refine k_shared hc4 hN hw hI ?_
  have hin : vp_in (nI j) 12 := vp_in_nI (by omega) (by omega)
  have hle := shN_le (c := c) (M := 12) (fun m hm => (st_eq (hI m hm) hw).2) N hN
  have hno : ¬ shr c j = true → Post 0 c := fun z => by
    unfold bon at h
    rw [if_neg z] at h
    exact h
  refine ⟨fun q => hno (fun z => ?_), fun q => k_shares (by omega) (hI j (by omega)) hw (fun z => ⟨fun y => absurd y (by decide), fun _ => ⟨hin, q, ?_⟩⟩) (fun z => ⟨fun _ => hno z, fun y => absurd rfl y⟩)⟩
  · have := shN_ge z N hj
    have := shr_pos z
    exact nI_ne0 (by omega) (by omega) q
  · unfold bon at h
    rw [if_pos z] at h
    rw [nI_clamp (by omega)]
    exact h
/-- the reference's row with the bonuses laid -/
def layF (g : Nat → Int32) (b : Nat → Int32) (i : Nat) : Nat → Int32 := fun o => if 70 ≤ o ∧ (o - 70) % 13 = 12 ∧ (o - 70) / 13 < i then b ((o - 70) / 13) else g o
theorem layF_0 (g b : Nat → Int32) : layF g b 0 = g := by
  funext o
  unfold layF
  rw [if_neg (by omega)]
theorem layF_s (g b : Nat → Int32) (i : Nat) : upd (layF g b i) (70 + 13 * i + 12) (b i) = layF g b (i + 1) := by
  funext o
  rw [upd_if]
  unfold layF
  by_cases e : o = 70 + 13 * i + 12
  · have e1 : (o - 70) / 13 = i := by omega
    rw [if_pos e, if_pos (by omega), e1]
  · rw [if_neg e]
    by_cases z : 70 ≤ o ∧ (o - 70) % 13 = 12 ∧ (o - 70) / 13 < i
    · rw [if_pos z, if_pos (by omega)]
    · rw [if_neg z, if_neg (by omega)]
theorem mb_layF {g b : Nat → Int32} {i m v : Nat} (hv : v < 13) : mb (layF g b i) m v = if v = 12 ∧ m < i then b m else mb g m v := by
  unfold mb layF
  by_cases z : v = 12 ∧ m < i
  · have e1 : (70 + 13 * m + v - 70) / 13 = m := by omega
    rw [if_pos z, if_pos (by omega), e1]
  · rw [if_neg z, if_neg (by omega)]
theorem kd_layF {g b : Nat → Int32} {i k v : Nat} (hk : k < 4) (hv : v < 15) : kd (layF g b i) k v = kd g k v := by
  unfold kd layF
  rw [if_neg (by omega)]
theorem gl_layF {g b : Nat → Int32} {i o : Nat} (ho : o < 10) : layF g b i o = g o := by
  unfold layF
  rw [if_neg (by omega)]
theorem out_layF {g b : Nat → Int32} {i o : Nat} (hi : i ≤ 12) (ho : 226 ≤ o) : layF g b i o = g o := by
  unfold layF
  rw [if_neg (by omega)]
theorem t_bonuses {c : CS} {u : RS} {w N : Nat} {Post : RS → Prop} (hG : CG c u.1 w N) (hM : ∀ m, m < N → CMm c u.1 m) (hI : ∀ m, m < 12 → CI c w m) (h6 : u.1 4 = c.1 6) (h : Post (rR u (layF u.1 (bon c N) N))) : wp_Mod_layBonuses u Post := by
  have hN := hG.2.1
  have hw := hG.1
  have hu1 : u.1 1 = nI N := hG.2.2.2.2.2.1
  have hle := shN_le (c := c) (M := 12) (fun m hm => (st_eq (hI m hm) hw).2) N hN
  have lay : ∀ n i, i ≤ N → N - i < n → wl_Mod_layBonuses_47 Post (fun v => Post v) n (nI (shN c N)) (nI i) (rR u (layF u.1 (bon c N) i)) := by
    intro n
    induction n with
    | zero => intro i h1 h2; omega
    | succ n ih =>
      intro i h1 h2
      unfold wl_Mod_layBonuses_47
      have e1 : (rR u (layF u.1 (bon c N) i)).1 1 = nI N := by
        show layF u.1 (bon c N) i 1 = _
        rw [gl_layF (by omega)]
        exact hu1
      rw [c1, e1]
      refine ⟨fun q => ?_, fun q => ?_⟩
      · have : i = N := by
          rcases Nat.lt_or_ge i N with z | z
          · exact absurd q (nI_ge z (by omega))
          · omega
        subst this
        exact h
      · have hi : i < N := Nat.lt_of_not_le (fun z => q (nI_le z (by omega)))
        have b0 : mb (layF u.1 (bon c N) i) i 0 = c.2.1 0 i := by rw [mb_layF (by omega), if_neg (by omega)]; exact (hM i hi).1
        have b5 : mb (layF u.1 (bon c N) i) i 5 = c.2.1 5 i := by rw [mb_layF (by omega), if_neg (by omega)]; exact (hM i hi).2.2.2.2.2.1
        have bn := layF_s u.1 (bon c N) i
        have nx : wl_Mod_layBonuses_47 Post (fun v => Post v) n (nI (shN c N)) (nI (i + 1)) (rR u (upd (layF u.1 (bon c N) i) (70 + 13 * i + 12) (bon c N i))) := by
          rw [bn]
          exact ih (i + 1) (by omega) (by omega)
        refine s_shares (c := c) (w := w) (by omega) (hI i (by omega)) hw b0 b5 (fun z => ⟨fun y => absurd y (by decide), fun _ => ⟨ofi0 (by omega), ?_, ofi12 (by omega), ?_⟩⟩) (fun z => ⟨fun _ => ⟨ofi12 (by omega), ?_⟩, fun y => absurd rfl y⟩)
        · have := shN_ge z N hi
          have := shr_pos z
          exact nI_ne0 (by omega) (by omega)
        · intro v ev x ex
          rw [ev, ex, nI_1, ofc12 (by omega), ofc0 (by omega), c4]
          have e4 : (rR u (layF u.1 (bon c N) i)).1 4 = c.1 6 := by
            show layF u.1 (bon c N) i 4 = _
            rw [gl_layF (by omega)]
            exact h6
          have e0 : (rR u (layF u.1 (bon c N) i)).1 (70 + 13 * i + 0) = c.2.1 0 i := b0
          rw [e4, e0]
          unfold bon at nx
          rw [if_pos z] at nx
          exact nx
        · intro v ev x ex
          rw [ev, ex, nI_1, ofc12 (by omega)]
          unfold bon at nx
          rw [if_neg z] at nx
          exact nx
  have sum : ∀ n i, i ≤ N → N - i < n → wl_Mod_layBonuses_4 Post (fun x9 u8 => (∃ k18 : Nat, wl_Mod_layBonuses_47 Post (fun u17 => Post u17) k18 x9 0 u8)) n (nI (shN c i)) (nI i) u := by
    intro n
    induction n with
    | zero => intro i h1 h2; omega
    | succ n ih =>
      intro i h1 h2
      unfold wl_Mod_layBonuses_4
      rw [c1, hu1]
      refine ⟨fun q => ?_, fun q => ?_⟩
      · have : i = N := by
          rcases Nat.lt_or_ge i N with z | z
          · exact absurd q (nI_ge z (by omega))
          · omega
        subst this
        have := lay (i + 1) 0 (by omega) (by omega)
        rw [layF_0] at this
        exact ⟨i + 1, this⟩
      · have hi : i < N := Nat.lt_of_not_le (fun z => q (nI_le z (by omega)))
        obtain ⟨e1, e2⟩ := st_eq (hI i (by omega)) hw
        have hs := shN_s c i
        refine s_shares (c := c) (w := w) (by omega) (hI i (by omega)) hw (hM i hi).1 (hM i hi).2.2.2.2.2.1 (fun z => ⟨fun y => absurd y (by decide), fun _ => ⟨ofi0 (by omega), ?_⟩⟩) (fun z => ⟨fun _ => ?_, fun y => absurd rfl y⟩)
        · rw [if_pos z] at hs
          have e0 : u.1 (70 + 13 * i + 0) = c.2.1 0 i := (hM i hi).1
          rw [ofc0 (by omega), e0, e1, nI_add, ← hs]
          intro x ex y ey
          rw [ex, ey, nI_1]
          exact ih (i + 1) (by omega) (by omega)
        · rw [if_neg z] at hs
          intro x ex y ey
          rw [ex, ey, nI_1, Int32.add_zero, show shN c i = shN c (i + 1) by omega]
          exact ih (i + 1) (by omega) (by omega)
  exact ⟨N + 1, sum (N + 1) 0 (by omega) (by omega)⟩
/-- the bonuses of the members before i -/
def bsum (b : Nat → Int32) : Nat → Int32
  | 0 => 0
  | n + 1 => bsum b n + b n
theorem pay_cp {c : CS} {g : Nat → Int32} {w N j : Nat} {v : Int32} (h : CP c g w N) (hj : j < N) : CP (payC c j v) g w N := by
  obtain ⟨hG, hM, hI, hO, hQ⟩ := h
  have hN := hG.2.1
  have ar : ∀ a, a ≠ 4 → (payC c j v).2.1 a = c.2.1 a := by
    intro a ha
    show (if a = 4 then _ else c.2.1 a) = _
    rw [if_neg ha]
  refine ⟨CG_eq hG rfl rfl rfl rfl rfl rfl, fun m hm => CMm_eq (hM m hm) (fun a h4 _ _ => by rw [ar a h4]) rfl (fun _ _ _ => rfl), fun m hm => CI_eq (hI m hm) (fun a h4 _ _ => by rw [ar a h4]) rfl, fun m h1 h2 => CO_eq (hO m h1 h2) (fun a _ _ => ?_) rfl, fun q hq => CQ_eq (hQ q hq) hN rfl rfl (fun _ _ => rfl) (fun _ _ => rfl) (fun _ _ => rfl)⟩
  by_cases e : a = 4
  · subst e
    show upd _ j _ m = _
    rw [upd_o (by omega)]
    rfl
  · rw [ar a e]
/-- the class pays the bonuses first -/
theorem bonus_loop {w N : Nat} {g : Nat → Int32} {c0 : CS} : ∀ (n i : Nat) (c : CS), CP c g w N → CAg (bsum (bon c0 N) i) (fun m => if m < i then bon c0 N m else 0) 0 c g N → c.1 6 = c0.1 6 → c.2.1 0 = c0.2.1 0 → c.2.1 5 = c0.2.1 5 → i ≤ N → N - i < n → ∃ c' : CS, CP c' g w N ∧ CAg (bsum (bon c0 N) N) (fun m => if m < N then bon c0 N m else 0) 0 c' g N ∧ (c'.1 2 = c.1 2) ∧ ∀ (Post : Int32 → CS → Prop) (K : CS → Prop), K c' → wl_Clb_settleAll_12 Post K n (nI i) c := by
  intro n
  induction n with
  | zero => intro i c _ _ _ _ _ h1 h2; omega
  | succ n ih =>
    intro i c h hA e6 e0 e5 h1 h2
    have hN := h.1.2.1
    have hc4 : c.1 4 = nI N := h.1.2.2.2.2.1
    by_cases hi : i = N
    · subst hi
      refine ⟨c, h, hA, rfl, fun Post K q => ?_⟩
      unfold wl_Clb_settleAll_12
      rw [hc4]
      exact ⟨fun _ => q, fun z => absurd (Int32.le_refl _) z⟩
    · have hlt : i < N := by omega
      have hb : bon c N i = bon c0 N i := by
        have es : st c = st c0 := by
          funext m
          unfold st
          rw [e0]
        have er : shr c = shr c0 := by
          funext m
          unfold shr
          rw [e5, es]
        have en : ∀ k, shN c k = shN c0 k := by
          intro k
          induction k with
          | zero => rfl
          | succ k ihk => rw [shN_s, shN_s, ihk, er, es]
        unfold bon
        rw [er, e6, e0, en]
      obtain ⟨c', r1, r2, r3, r4⟩ := ih (i + 1) (payC c i (bon c0 N i)) (pay_cp h hlt) (by
        obtain ⟨a1, a2, a3, a4, a5, a6, a7⟩ := hA
        refine ⟨?_, a2, ?_, a4, a5, a6, fun m hm => ?_⟩
        · show c.1 5 - bon c0 N i + (bsum (bon c0 N) i + bon c0 N i) = g 3
          rw [← a1, Int32.add_comm (bsum (bon c0 N) i), ← Int32.add_assoc, Int32.sub_add_cancel]
        · show c.1 8 + bon c0 N i = g 6 + (bsum (bon c0 N) i + bon c0 N i)
          rw [a3, Int32.add_assoc]
        · have this : c.2.1 4 m = mb g m 10 + (if m < i then bon c0 N m else 0) := a7 m hm
          show upd (c.2.1 4) i (c.2.1 4 i + bon c0 N i) m = mb g m 10 + (if m < i + 1 then bon c0 N m else 0)
          by_cases e : m = i
          · subst e
            rw [upd_s, this, if_neg (Nat.lt_irrefl m), if_pos (Nat.lt_succ_self m), Int32.add_zero]
          · rw [upd_o e, this]
            by_cases z : m < i
            · rw [if_pos z, if_pos (by omega)]
            · rw [if_neg z, if_neg (by omega)]) e6 e0 e5 (by omega) (by omega)
      refine ⟨c', r1, r2, r3, fun Post K q => ?_⟩
      unfold wl_Clb_settleAll_12
      rw [hc4]
      refine ⟨fun z => absurd z (nI_ge hlt (by omega)), fun _ => k_bonus hc4 hN h.1.1 h.2.2.1 hlt (k_payMember (by omega) ?_)⟩
      intro x ex
      rw [ex, nI_1, hb]
      exact r4 Post K q
