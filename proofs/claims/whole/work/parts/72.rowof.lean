/-! Good weeks in a row. -/
def rowN (g : Nat → Bool) : Nat → Nat
  | 0 => 0
  | i + 1 => if g i = true then rowN g i + 1 else 0
def dn (t : Nat) : Int32 := if t = 0 then -1 else nI (t - 1)
theorem dn_s (t : Nat) : dn (t + 1) = nI t := by
  unfold dn
  rw [if_neg (by omega)]
  rfl
theorem dn_m (t : Nat) : nI t + -1 = dn t := by
  unfold dn
  by_cases h : t = 0
  · rw [if_pos h, h]
    decide
  · rw [if_neg h]
    obtain ⟨s, rfl⟩ : ∃ s, t = s + 1 := ⟨t - 1, by omega⟩
    have := nI_m1 s
    rw [Int32.sub_eq_add_neg] at this
    exact this
theorem dn_m' (t : Nat) : nI t - 1 = dn t := by
  rw [Int32.sub_eq_add_neg]
  exact dn_m t
theorem rowN_le (g : Nat → Bool) : ∀ t, rowN g t ≤ t := by
  intro t
  induction t with
  | zero => exact Nat.le_refl _
  | succ t ih =>
    show (if g t = true then rowN g t + 1 else 0) ≤ t + 1
    split <;> omega
theorem l_rowC {c : CS} {j : Nat} {Post : Int32 → CS → Prop} (hj : j < 12) : ∀ n t a, t < n → t ≤ 61 → Post (nI (a + rowN (gbit (c.2.2 j)) t)) c → wl_Crd_rowOfGoodWeeks_23 Post (fun x u => Post x u) n (nI j) (nI a) (dn t) c := by
  intro n
  induction n with
  | zero => intro t a h; omega
  | succ n ih =>
    intro t a h1 h2 h
    unfold wl_Crd_rowOfGoodWeeks_23
    cases t with
    | zero =>
      refine ⟨fun _ => h, fun q => absurd ?_ q⟩
      decide
    | succ t =>
      rw [dn_s]
      have hs : rowN (gbit (c.2.2 j)) (t + 1) = if gbit (c.2.2 j) t = true then rowN (gbit (c.2.2 j)) t + 1 else 0 := rfl
      rw [hs] at h
      refine ⟨fun q => absurd q (nI_pos (by omega)), fun _ => k_goodIn hj (by omega) (fun y => ⟨fun x => absurd x (by decide), fun _ => ?_⟩) (fun y => ⟨fun _ => ?_, fun x => absurd rfl x⟩)⟩
      · rw [if_pos y] at h
        intro x ex x8 e8
        rw [ex, e8, nI_1, dn_m]
        refine ih t (a + 1) (by omega) (by omega) ?_
        rw [show a + 1 + rowN (gbit (c.2.2 j)) t = a + (rowN (gbit (c.2.2 j)) t + 1) by omega]
        exact h
      · rw [if_neg y] at h
        exact h
theorem l_rowM {u : RS} {j : Nat} {Post : Int32 → RS → Prop} (hj : j < 12) : ∀ n t a, t < n → t ≤ 61 → Post (nI (a + rowN (goodR u.1 j) t)) u → wl_Mod_rowOf_29 Post (fun x v => Post x v) n (nI j) (nI a) (dn t) u := by
  intro n
  induction n with
  | zero => intro t a h; omega
  | succ n ih =>
    intro t a h1 h2 h
    unfold wl_Mod_rowOf_29
    cases t with
    | zero => exact s_isGoodNeg (by decide) ⟨fun _ => h, fun x => absurd rfl x⟩
    | succ t =>
      rw [dn_s]
      have hs : rowN (goodR u.1 j) (t + 1) = if goodR u.1 j t = true then rowN (goodR u.1 j) t + 1 else 0 := rfl
      rw [hs] at h
      refine s_isGoodWeek hj (by omega) (fun y => ⟨fun x => absurd x (by decide), fun _ => ?_⟩) (fun y => ⟨fun _ => ?_, fun x => absurd rfl x⟩)
      · rw [if_pos y] at h
        intro x ex x8 e8
        rw [ex, e8, nI_1, dn_m]
        refine ih t (a + 1) (by omega) (by omega) ?_
        rw [show a + 1 + rowN (goodR u.1 j) t = a + (rowN (goodR u.1 j) t + 1) by omega]
        exact h
      · rw [if_neg y] at h
        exact h
theorem rowN_cong {g g' : Nat → Bool} : ∀ t, (∀ i, i < t → g i = g' i) → rowN g t = rowN g' t := by
  intro t
  induction t with
  | zero => intro _; rfl
  | succ t ih =>
    intro h
    show (if g t = true then rowN g t + 1 else 0) = (if g' t = true then rowN g' t + 1 else 0)
    rw [h t (by omega), ih (fun i hi => h i (by omega))]
def rowV (g : Nat → Bool) (w : Nat) : Nat := if g w = true then rowN g w + 1 else rowN g w
theorem k_rowOf {c : CS} {j w : Nat} {Post : Int32 → CS → Prop} (hj : j < 12) (hw : w ≤ 60) (h : Post (nI (rowV (gbit (c.2.2 j)) w)) c) : wp_Crd_rowOfGoodWeeks c (nI j) (nI w) Post := by
  unfold wp_Crd_rowOfGoodWeeks
  unfold rowV at h
  refine k_goodIn hj (by omega) (fun y => ⟨fun x => absurd x (by decide), fun _ => ⟨62, ?_⟩⟩) (fun y => ⟨fun _ => ?_, fun x => absurd rfl x⟩)
  · rw [if_pos y] at h
    have := l_rowC (c := c) (Post := Post) hj 62 (w + 1) 0 (by omega) (by omega) (by
      show Post (nI (0 + (if gbit (c.2.2 j) w = true then rowN (gbit (c.2.2 j)) w + 1 else 0))) c
      rw [if_pos y, Nat.zero_add]
      exact h)
    rw [dn_s] at this
    exact this
  · rw [if_neg y] at h
    intro x ex
    rw [ex, dn_m']
    exact ⟨62, l_rowC hj 62 w 0 (by omega) (by omega) (by rw [Nat.zero_add]; exact h)⟩
theorem t_rowOf {u : RS} {j w : Nat} {Post : Int32 → RS → Prop} (hj : j < 12) (hw : w ≤ 60) (h0 : u.1 0 = nI w) (h : Post (nI (rowV (goodR u.1 j) w)) u) : wp_Mod_rowOf u (nI j) Post := by
  unfold wp_Mod_rowOf
  unfold rowV at h
  rw [c0, h0]
  refine s_isGoodWeek hj hw (fun y => ⟨fun x => absurd x (by decide), fun _ => ?_⟩) (fun y => ⟨fun _ => ?_, fun x => absurd rfl x⟩)
  · rw [if_pos y] at h
    rw [h0]
    intro x ex
    rw [ex, dn_m']
    exact ⟨62, l_rowM hj 62 w 1 (by omega) (by omega) (by rw [Nat.add_comm 1]; exact h)⟩
  · rw [if_neg y] at h
    rw [h0]
    intro x ex
    rw [ex, dn_m']
    exact ⟨62, l_rowM hj 62 w 0 (by omega) (by omega) (by rw [Nat.zero_add]; exact h)⟩
