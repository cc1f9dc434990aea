/-! Settling: the bonuses. -/
def shr (c : CS) (m : Nat) : Bool := decide (c.2.1 5 m = 0 ∧ 0 < nst c m)
def shN (c : CS) : Nat → Nat
  | 0 => 0
  | n + 1 => shN c n + (if shr c n = true then nst c n else 0)
def bon (c : CS) (N m : Nat) : Int32 := if shr c m = true then c.1 6 * c.2.1 0 m / nI (shN c N) else 0
theorem st_eq {c : CS} {w m : Nat} (h : InvM c w m) (hw : w ≤ 60) : c.2.1 0 m = nI (nst c m) ∧ nst c m ≤ 305 := by
  have := wk5_le (g := c.2.2 m) hw
  exact ⟨h.1.1, by have := h.1.2; omega⟩
theorem shN_le {c : CS} {M : Nat} (h : ∀ m, m < M → nst c m ≤ 305) : ∀ i, i ≤ M → shN c i ≤ 305 * i := by
  intro i
  induction i with
  | zero => intro _; exact Nat.le_refl _
  | succ i ih =>
    intro hi
    have := ih (by omega)
    have := h i (by omega)
    show shN c i + (if shr c i = true then nst c i else 0) ≤ _
    split <;> omega
theorem shN_ge {c : CS} {m : Nat} (h : shr c m = true) : ∀ i, m < i → nst c m ≤ shN c i := by
  intro i
  induction i with
  | zero => intro h; omega
  | succ i ih =>
    intro hi
    show _ ≤ shN c i + (if shr c i = true then nst c i else 0)
    by_cases e : m = i
    · subst e
      rw [if_pos h]
      omega
    · have := ih (by omega)
      omega
theorem shr_pos {c : CS} {m : Nat} (h : shr c m = true) : 0 < nst c m := (of_decide_eq_true h).2
theorem k_shares {c : CS} {w j : Nat} {Post : Int32 → CS → Prop} (hj : j < 12) (hI : InvM c w j) (hw : w ≤ 60) (h1 : shr c j = true → Post 1 c) (h0 : ¬ shr c j = true → Post 0 c) : wp_Crd_shares c (nI j) Post := by
  have hin : vp_in (nI j) 12 := vp_in_nI hj (by omega)
  obtain ⟨e1, e2⟩ := st_eq hI hw
  unfold wp_Crd_shares
  rw [nI_clamp (show j < 2 ^ 31 by omega), e1, lt1 (by omega)]
  refine ⟨hin, fun q => ⟨hin, fun z => h0 (fun y => ?_), fun z => h1 (decide_eq_true ⟨q, by omega⟩)⟩, fun q => h0 (fun y => q (of_decide_eq_true y).1)⟩
  have := shr_pos y
  omega
theorem shN_s (c : CS) (n : Nat) : shN c (n + 1) = shN c n + (if shr c n = true then nst c n else 0) := rfl
theorem k_shared {c : CS} {w N : Nat} {Post : Int32 → CS → Prop} (hc4 : c.1 4 = nI N) (hN : N ≤ 12) (hw : w ≤ 60) (hI : ∀ m, m < 12 → InvM c w m) (h : Post (nI (shN c N)) c) : wp_Crd_sharedStamps c Post := by
  have go : ∀ n i, i ≤ N → N - i < n → wl_Crd_sharedStamps_4 Post (fun x u => Post x u) n (nI (shN c i)) (nI i) c := by
    intro n
    induction n with
    | zero => intro i h1 h2; omega
    | succ n ih =>
      intro i h1 h2
      unfold wl_Crd_sharedStamps_4
      rw [hc4]
      refine ⟨fun q => ?_, fun q => ?_⟩
      · have : i = N := by
          rcases Nat.lt_or_ge i N with z | z
          · exact absurd q (nI_ge z (by omega))
          · omega
        subst this
        exact h
      · have hi : i < N := Nat.lt_of_not_le (fun z => q (nI_le z (by omega)))
        obtain ⟨e1, e2⟩ := st_eq (hI i (by omega)) hw
        have hs := shN_s c i
        refine k_shares (by omega) (hI i (by omega)) hw (fun z => ⟨fun y => absurd y (by decide), fun _ => ?_⟩) (fun z => ⟨fun _ => ?_, fun y => absurd rfl y⟩)
        · rw [if_pos z] at hs
          refine ⟨vp_in_nI (by omega) (by omega), ?_⟩
          rw [nI_clamp (by omega), e1, nI_add, ← hs]
          intro x ex y ey
          rw [ex, ey, nI_1]
          exact ih (i + 1) (by omega) (by omega)
        · rw [if_neg z] at hs
          intro x ex y ey
          rw [ex, ey, nI_1, Int32.add_zero, show shN c i = shN c (i + 1) by omega]
          exact ih (i + 1) (by omega) (by omega)
  exact ⟨N + 1, go (N + 1) 0 (by omega) (by omega)⟩
theorem k_bonus {c : CS} {w N j : Nat} {Post : Int32 → CS → Prop} (hc4 : c.1 4 = nI N) (hN : N ≤ 12) (hw : w ≤ 60) (hI : ∀ m, m < 12 → InvM c w m) (hj : j < N) (h : Post (bon c N j) c) : wp_Clb_bonusOf c (nI j) Post := by
  unfold wp_Clb_bonusOf
  refine k_shared hc4 hN hw hI ?_
  have hin : vp_in (nI j) 12 := vp_in_nI (by omega) (by omega)
  have hle := shN_le (c := c) (M := 12) (fun m hm => (st_eq (hI m hm) hw).2) N hN
  have hno : ¬ shr c j = true → Post 0 c := fun z => by
    unfold bon at h
    rw [if_neg z] at h
    exact h
  refine ⟨fun q => hno (fun z => ?_), fun q => k_shares (by omega) (hI j (by omega)) hw (fun z => ⟨fun y => absurd y (by decide), fun _ => ⟨hin, q, ?_⟩⟩) (fun z => ⟨fun _ => hno z, fun y => absurd rfl y⟩)⟩
  · have := shN_ge z N hj
    have := shr_pos z
    exact nI_ne0 (by omega) (by omega) q
  · unfold bon at h
    rw [if_pos z] at h
    rw [nI_clamp (by omega)]
    exact h
/-- the bonuses are not more than the pool -/
def bnat (c : CS) (N P m : Nat) : Nat := if shr c m = true then P * nst c m / shN c N else 0
theorem bon_nat {c : CS} {w N P m : Nat} (hw : w ≤ 60) (hM : InvM c w m) (hm : m < N) (hP : c.1 6 = nI P) (hP2 : P ≤ 36600) (hN : N ≤ 12) (hle : shN c N ≤ 305 * N) : bon c N m = nI (bnat c N P m) ∧ bnat c N P m ≤ P := by
  obtain ⟨e1, e2⟩ := st_eq hM hw
  unfold bon bnat
  by_cases z : shr c m = true
  · rw [if_pos z, if_pos z]
    have h1 := shN_ge z N hm
    have h2 := shr_pos z
    have h3 : P * nst c m ≤ 36600 * 305 := Nat.mul_le_mul hP2 e2
    rw [hP, e1, pk_mul, nI_div (by omega) (by omega)]
    refine ⟨rfl, ?_⟩
    have h4 : P * nst c m ≤ P * shN c N := Nat.mul_le_mul_left P h1
    exact Nat.le_trans (Nat.div_le_div_right h4) (by rw [Nat.mul_div_cancel _ (by omega)]; exact Nat.le_refl P)
  · rw [if_neg z, if_neg z]
    exact ⟨rfl, Nat.zero_le P⟩
theorem bnat_sum {c : CS} {N P : Nat} : nsum (bnat c N P) N ≤ P := by
  have go : ∀ n, n ≤ N → nsum (bnat c N P) n * shN c N ≤ P * shN c n := by
    intro n
    induction n with
    | zero => intro _; show 0 * _ ≤ P * 0; omega
    | succ n ih =>
      intro hn
      have h1 := ih (by omega)
      have hs := shN_s c n
      have e : nsum (bnat c N P) (n + 1) = nsum (bnat c N P) n + bnat c N P n := rfl
      rw [e, Nat.add_mul]
      have h2 : bnat c N P n * shN c N ≤ P * (if shr c n = true then nst c n else 0) := by
        unfold bnat
        split
        · exact Nat.div_mul_le_self _ _
        · omega
      rw [hs, Nat.mul_add]
      omega
  have h := go N (Nat.le_refl N)
  rcases Nat.eq_zero_or_pos (shN c N) with z | z
  · have : nsum (bnat c N P) N = 0 := nsum_0 (fun m hm => by
      unfold bnat
      rw [z]
      split
      · exact Nat.div_zero _
      · rfl)
    omega
  · exact Nat.le_of_mul_le_mul_right h z
theorem bsum_add {f g : Nat → Int32} : ∀ n, bsum (fun m => f m + g m) n = bsum f n + bsum g n := by
  intro n
  induction n with
  | zero => rfl
  | succ n ih =>
    show bsum (fun m => f m + g m) n + (f n + g n) = bsum f n + f n + (bsum g n + g n)
    rw [ih]
    grind
def P1 (c0 c : CS) (b : Nat → Int32) (i : Nat) : Prop := Can c ∧ (∀ k, k ≠ 5 → k ≠ 8 → c.1 k = c0.1 k) ∧ (∀ a, a ≠ 4 → c.2.1 a = c0.2.1 a) ∧ c.2.2 = c0.2.2 ∧ (∀ m, c.2.1 4 m = if m < i then c0.2.1 4 m + b m else c0.2.1 4 m) ∧ c.1 5 = c0.1 5 - bsum b i ∧ c.1 8 = c0.1 8 + bsum b i
theorem bon_eq {c c0 : CS} {N i : Nat} (e6 : c.1 6 = c0.1 6) (e0 : c.2.1 0 = c0.2.1 0) (e5 : c.2.1 5 = c0.2.1 5) : bon c N i = bon c0 N i := by
  have es : nst c = nst c0 := by
    funext m
    unfold nst
    rw [e0]
  have er : shr c = shr c0 := by
    funext m
    unfold shr
    rw [e5, es]
  have en : ∀ k, shN c k = shN c0 k := by
    intro k
    induction k with
    | zero => rfl
    | succ k ihk => rw [shN_s, shN_s, ihk, er, es]
  unfold bon
  rw [er, e6, e0, en]
theorem bonus_loop {w N : Nat} {c0 : CS} (hB : Base c0 w N) : ∀ (n i : Nat) (c : CS), P1 c0 c (bon c0 N) i → i ≤ N → N - i < n → ∃ c' : CS, P1 c0 c' (bon c0 N) N ∧ ∀ (Post : Int32 → CS → Prop) (K : CS → Prop), K c' → wl_Clb_settleAll_12 Post K n (nI i) c := by
  intro n
  induction n with
  | zero => intro i c _ h1 h2; omega
  | succ n ih =>
    intro i c h h1 h2
    have hG := hB.2.1
    have hN := hG.2.1
    obtain ⟨q1, q2, q3, q4, q5, q6, q7⟩ := id h
    have hc4 : c.1 4 = nI N := (q2 4 (by omega) (by omega)).trans hG.2.2.2.1
    by_cases hi : i = N
    · subst hi
      refine ⟨c, h, fun Post K q => ?_⟩
      unfold wl_Clb_settleAll_12
      rw [hc4]
      exact ⟨fun _ => q, fun z => absurd (Int32.le_refl _) z⟩
    · have hlt : i < N := by omega
      have hi12 : i < 12 := by omega
      have hb : bon c N i = bon c0 N i := bon_eq (q2 6 (by omega) (by omega)) (q3 0 (by omega)) (q3 5 (by omega))
      obtain ⟨c', r1, r4⟩ := ih (i + 1) (payC c i (bon c0 N i)) (by
        refine ⟨Can_up (k := 4) (Can_cS (Can_cS q1 (by omega)) (by omega)) (by omega) hi12, fun k k5 k8 => ?_, fun a ha => ?_, q4, fun m => ?_, ?_, ?_⟩
        · show (if k = 8 then _ else if k = 5 then _ else c.1 k) = _
          rw [if_neg k8, if_neg k5]
          exact q2 k k5 k8
        · show (if a = 4 then _ else c.2.1 a) = _
          rw [if_neg ha]
          exact q3 a ha
        · show upd (c.2.1 4) i (c.2.1 4 i + bon c0 N i) m = _
          have e4 := q5 m
          by_cases z : m = i
          · subst z
            rw [if_neg (Nat.lt_irrefl m)] at e4
            rw [upd_s, e4, if_pos (Nat.lt_succ_self m)]
          · rw [upd_o z, e4]
            by_cases y : m < i
            · rw [if_pos y, if_pos (by omega)]
            · rw [if_neg y, if_neg (by omega)]
        · show c.1 5 - bon c0 N i = c0.1 5 - (bsum (bon c0 N) i + bon c0 N i)
          rw [q6]
          grind
        · show c.1 8 + bon c0 N i = c0.1 8 + (bsum (bon c0 N) i + bon c0 N i)
          rw [q7]
          grind) (by omega) (by omega)
      refine ⟨c', r1, fun Post K q => ?_⟩
      unfold wl_Clb_settleAll_12
      rw [hc4]
      refine ⟨fun z => absurd z (nI_ge hlt (by omega)), fun _ => k_bonus hc4 hN hG.1 (fun m hm => InvM_eq (hB.2.2.1 m hm) (fun a _ a4 _ _ => by rw [q3 a a4]) (by rw [q4])) hlt (k_payMember (by omega) ?_)⟩
      intro x ex
      rw [ex, nI_1, hb]
      exact r4 Post K q
