/-! The relation between a club and the reference's row; the reference's small methods. -/
def CG (c : CS) (f : Nat → Int32) (w N : Nat) : Prop := w ≤ 60 ∧ N ≤ 12 ∧ c.1 0 = nI w ∧ f 0 = nI w ∧ c.1 4 = nI N ∧ f 1 = nI N ∧ (c.1 1 = 0 ∨ c.1 1 = 1) ∧ f 2 = c.1 1
/-- the accounts, B pence (b of them a member's) behind, h hampers ahead -/
def CAg (B : Int32) (b : Nat → Int32) (h : Int32) (c : CS) (f : Nat → Int32) (N : Nat) : Prop := c.1 5 + B = f 3 ∧ c.1 7 = f 5 ∧ c.1 8 = f 6 + B ∧ c.1 9 = f 7 ∧ c.1 2 = f 8 + h ∧ c.1 3 = f 9 ∧ ∀ m, m < N → c.2.1 4 m = mb f m 10 + b m
def CA (c : CS) (f : Nat → Int32) (N : Nat) : Prop := CAg 0 (fun _ => 0) 0 c f N ∧ c.1 6 = f 4
/-- a member -/
def CMm (c : CS) (f : Nat → Int32) (m : Nat) : Prop := mb f m 0 = c.2.1 0 m ∧ mb f m 1 = c.2.1 1 m ∧ mb f m 2 = c.2.1 2 m ∧ mb f m 3 = c.2.1 9 m ∧ mb f m 4 = (if ¬ c.2.1 9 m = -9 ∧ c.2.1 10 m = 0 then 1 else 0) ∧ mb f m 5 = c.2.1 5 m ∧ mb f m 6 = c.2.1 3 m ∧ mb f m 9 = c.2.1 6 m ∧ mb f m 11 = c.2.1 11 m ∧ ∀ i, i ≤ 60 → gbit (c.2.2 m) i = ibit (mb f m (7 + i / 31)) (i % 31)
/-- what a member's numbers are -/
def CI (c : CS) (w m : Nat) : Prop := (∃ s, c.2.1 0 m = nI s ∧ s ≤ 5 * w + (if gbit (c.2.2 m) w = true then 5 else 0)) ∧ (c.2.1 1 m = 0 ∨ c.2.1 1 m = 1 ∨ c.2.1 1 m = 2) ∧ (c.2.1 1 m = 1 → ∃ q, q ≤ w ∧ c.2.1 2 m = nI q) ∧ (c.2.1 5 m = 0 ∨ c.2.1 5 m = 1) ∧ ((c.2.1 9 m = -9 ∧ c.2.1 10 m = 0) ∨ ∃ k, k < 4 ∧ c.2.1 9 m = nI k) ∧ ∀ i, w < i → i < 64 → gbit (c.2.2 m) i = false
/-- a place where nobody has joined yet -/
def CO (c : CS) (m : Nat) : Prop := c.2.1 0 m = 0 ∧ c.2.1 1 m = 0 ∧ c.2.1 2 m = 0 ∧ c.2.1 4 m = 0 ∧ c.2.1 5 m = 0 ∧ c.2.1 6 m = -9 ∧ c.2.1 9 m = -9 ∧ c.2.1 10 m = 0 ∧ c.2.1 11 m = -9 ∧ c.2.2 m = 0
/-- a kind and its row -/
def CQ (c : CS) (f : Nat → Int32) (N k : Nat) : Prop := c.2.1 7 k = kd f k 0 ∧ (∃ p, 1 ≤ p ∧ p ≤ 200 ∧ c.2.1 7 k = nI p) ∧ c.2.1 8 k = kd f k 1 ∧ ∃ n, n ≤ 12 ∧ kd f k 2 = nI n ∧ (∀ i, i < n → ∃ m, m < N ∧ kd f k (3 + i) = nI m ∧ c.2.1 9 m = nI k ∧ c.2.1 10 m = nI (i + 1)) ∧ (∀ m, m < 12 → c.2.1 9 m = nI k → c.2.1 10 m = 0 ∨ ∃ i, i < n ∧ c.2.1 10 m = nI (i + 1) ∧ kd f k (3 + i) = nI m)
def SE (c : CS) (N : Nat) : Prop := (c.1 1 = 0 → c.1 2 = 0) ∧ (c.1 1 = 1 → ∀ m, m < 12 → (m < N → c.2.1 1 m = 2) ∧ c.2.1 9 m = -9)
/-- everything but the accounts -/
def CP (c : CS) (f : Nat → Int32) (w N : Nat) : Prop := CG c f w N ∧ (∀ m, m < N → CMm c f m) ∧ (∀ m, m < 12 → CI c w m) ∧ (∀ m, N ≤ m → m < 12 → CO c m) ∧ ∀ k, k < 4 → CQ c f N k
def CR (c : CS) (f : Nat → Int32) : Prop := ∃ w N, CP c f w N ∧ CA c f N ∧ SE c N
/-- what is known of a row's head -/
def RG (f : Nat → Int32) (w N : Nat) : Prop := w ≤ 60 ∧ N ≤ 12 ∧ f 0 = nI w ∧ f 1 = nI N ∧ (f 2 = 0 ∨ f 2 = 1)
theorem CG.rg {c : CS} {f : Nat → Int32} {w N : Nat} (h : CG c f w N) : RG f w N := by
  obtain ⟨h1, h2, h3, h4, h5, h6, h7, h8⟩ := h
  exact ⟨h1, h2, h4, h6, by rw [h8]; exact h7⟩
def mem (f : Nat → Int32) (p : Int32) : Prop := 0 ≤ p.toInt ∧ p.toInt < (f 1).toInt
theorem RG.mem {f : Nat → Int32} {w N : Nat} (h : RG f w N) {p : Int32} : mem f p ↔ isM N p := by
  obtain ⟨h1, h2, h3, h4, h5⟩ := h
  show (0 ≤ p.toInt ∧ p.toInt < (f 1).toInt) ↔ (0 ≤ p.toInt ∧ p.toInt < N)
  rw [h4, nI_toInt (by omega)]
def goodR (f : Nat → Int32) (j i : Nat) : Bool := ibit (mb f j (7 + i / 31)) (i % 31)
theorem c0 : (0 : Int32).toNatClampNeg = 0 := by decide
theorem c1 : (1 : Int32).toNatClampNeg = 1 := by decide
theorem c2 : (2 : Int32).toNatClampNeg = 2 := by decide
theorem c3 : (3 : Int32).toNatClampNeg = 3 := by decide
theorem c4 : (4 : Int32).toNatClampNeg = 4 := by decide
theorem c5 : (5 : Int32).toNatClampNeg = 5 := by decide
theorem c6 : (6 : Int32).toNatClampNeg = 6 := by decide
theorem c7 : (7 : Int32).toNatClampNeg = 7 := by decide
theorem c8 : (8 : Int32).toNatClampNeg = 8 := by decide
theorem c9 : (9 : Int32).toNatClampNeg = 9 := by decide
theorem pv {c : Prop} {Post : Int32 → RS → Prop} {u : RS} [Decidable c] {a b : Int32} (ht : c → Post a u) (hf : ¬ c → Post b u) : Post (if c then a else b) u := by
  by_cases h : c
  · rw [if_pos h]; exact ht h
  · rw [if_neg h]; exact hf h
theorem s_isMember {u : RS} {p : Int32} {Post : Int32 → RS → Prop} {w N : Nat} (hg : RG u.1 w N) (ht : isM N p → Post 1 u) (hf : ¬ isM N p → Post 0 u) : wp_Mod_isMember u p Post := by
  obtain ⟨h1, h2, h3, h4, h5⟩ := hg
  unfold wp_Mod_isMember
  refine ⟨in_01, ?_⟩
  rw [c1, h4, inM h2]
  exact pv ht hf
theorem s_isSettled {u : RS} {Post : Int32 → RS → Prop} (ht : u.1 2 = 1 → Post 1 u) (hf : ¬ u.1 2 = 1 → Post 0 u) : wp_Mod_isSettled u Post := by
  unfold wp_Mod_isSettled
  rw [c2]
  exact ⟨ht, hf⟩
theorem s_isInHand {u : RS} {j : Nat} {Post : Int32 → RS → Prop} (hj : j < 12) (ht : mb u.1 j 1 = 0 → Post 1 u) (hf : ¬ mb u.1 j 1 = 0 → Post 0 u) : wp_Mod_isInHand u (nI j) Post := by
  unfold wp_Mod_isInHand
  refine ⟨of_in (w := 1) hj (by omega), ?_⟩
  rw [show (1 : Int32) = nI 1 from rfl, of_cl hj (by omega)]
  exact ⟨ht, hf⟩
theorem s_isGoodWeek {u : RS} {j i : Nat} {Post : Int32 → RS → Prop} (hj : j < 12) (hi : i ≤ 60) (ht : goodR u.1 j i = true → Post 1 u) (hf : ¬ goodR u.1 j i = true → Post 0 u) : wp_Mod_isGoodWeek u (nI j) (nI i) Post := by
  unfold wp_Mod_isGoodWeek
  have hd : (7 : Int32) + nI i / 31 = nI (7 + i / 31) := by rw [wk_div (by omega), show (7 : Int32) = nI 7 from rfl, nI_add]
  rw [hd, of_cl hj (by omega), wk_rem (by omega), ref_bit (by omega)]
  exact ⟨fun h => absurd h (nI_pos (by omega)), fun _ => ⟨of_in hj (by omega), ht, hf⟩⟩
theorem s_isGoodNeg {u : RS} {p q : Int32} {Post : Int32 → RS → Prop} (hq : q < 0) (hf : Post 0 u) : wp_Mod_isGoodWeek u p q Post := ⟨fun _ => hf, fun h => absurd hq h⟩
/-! which calls the reference refuses -/
def noStick (f : Nat → Int32) (p k : Int32) : Int32 := if (0 ≤ p.toInt ∧ p.toInt < (f 1).toInt) ∧ 1 ≤ k.toInt ∧ k.toInt ≤ 5 then (if f 2 = 1 ∨ ¬ mb f p.toNatClampNeg 1 = 0 ∨ goodR f p.toNatClampNeg (f 0).toNatClampNeg = true then -2 else 0) else -1
theorem in15 {k : Int32} {a b : Int32} : pf_Mod_in k a b = 0 ↔ ¬ (a.toInt ≤ k.toInt ∧ k.toInt ≤ b.toInt) := by
  rw [in_eq]
  by_cases h : a.toInt ≤ k.toInt ∧ k.toInt ≤ b.toInt
  · rw [if_pos h]; exact ⟨fun q => absurd q (by decide), fun q => absurd h q⟩
  · rw [if_neg h]; exact ⟨fun _ => h, fun _ => rfl⟩
theorem s_noStick {u : RS} {p k : Int32} {Post : Int32 → RS → Prop} {w N : Nat} (hg : RG u.1 w N) (h : Post (noStick u.1 p k) u) : wp_Mod_noStick u p k Post := by
  have hm := hg.mem (p := p)
  unfold mem at hm
  have hw : u.1 0 = nI w := hg.2.2.1
  have hw60 := hg.1
  unfold noStick at h
  unfold wp_Mod_noStick
  refine s_isMember hg (fun hM => ⟨fun q => absurd q (by decide), fun _ => ?_⟩) (fun hM => ⟨fun _ => ?_, fun q => absurd rfl q⟩)
  · rw [in15]
    refine ⟨fun hk => ?_, fun hk => ?_⟩
    · rw [if_neg (fun q => hk q.2)] at h
      exact h
    · have hk' := Decidable.not_not.mp hk
      rw [if_pos ⟨hm.mpr hM, hk'⟩] at h
      obtain ⟨j, hj, rfl⟩ := isM_of hM hg.2.1
      have hN := hg.2.1
      rw [nI_clamp (by omega), hw, nI_clamp (by omega)] at h
      refine s_isSettled (fun hs => ⟨fun q => absurd q (by decide), fun _ => ?_⟩) (fun hs => ⟨fun _ => ?_, fun q => absurd rfl q⟩)
      · rw [if_pos (Or.inl hs)] at h
        exact h
      · refine s_isInHand (by omega) (fun hc => ⟨fun q => absurd q (by decide), fun _ => ?_⟩) (fun hc => ⟨fun _ => ?_, fun q => absurd rfl q⟩)
        · rw [c0, hw]
          refine s_isGoodWeek (by omega) (by omega) (fun hb => ⟨fun q => absurd q (by decide), fun _ => ?_⟩) (fun hb => ⟨fun _ => ?_, fun q => absurd rfl q⟩)
          · rw [if_pos (Or.inr (Or.inr hb))] at h
            exact h
          · rw [if_neg (fun q => q.elim hs (fun q => q.elim (fun q => q hc) hb))] at h
            exact h
        · rw [if_pos (Or.inr (Or.inl hc))] at h
          exact h
  · rw [if_neg (fun q => hM (hm.mp q.1))] at h
    exact h
