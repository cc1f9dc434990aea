/-! What holds of a club: its numbers, its members, its kinds and their rows. -/
def dim (k : Nat) : Nat := if k = 7 ∨ k = 8 then 4 else 12
theorem dim12 {k : Nat} (h7 : k ≠ 7) (h8 : k ≠ 8) : dim k = 12 := if_neg (by omega)
theorem dim7 : dim 7 = 4 := rfl
theorem dim8 : dim 8 = 4 := rfl
/-- nothing stands beyond the ends -/
def Can (c : CS) : Prop := (∀ i, 10 ≤ i → c.1 i = 0) ∧ (∀ k m, (12 ≤ k ∨ dim k ≤ m) → c.2.1 k m = 0) ∧ ∀ m, 12 ≤ m → c.2.2 m = 0
theorem Can_cS {c : CS} {k : Nat} {v : Int32} (h : Can c) (hk : k < 10) : Can (cS c k v) := by
  refine ⟨fun i hi => ?_, h.2.1, h.2.2⟩
  show (if i = k then v else c.1 i) = 0
  rw [if_neg (by omega)]
  exact h.1 i hi
theorem Can_cA {c : CS} {k : Nat} {f : Nat → Int32} (h : Can c) (hk : k < 12) (hf : ∀ m, dim k ≤ m → f m = 0) : Can (cA c k f) := by
  refine ⟨h.1, fun i m hi => ?_, h.2.2⟩
  show (if i = k then f else c.2.1 i) m = 0
  by_cases e : i = k
  · rw [if_pos e]
    refine hf m ?_
    rw [← e]
    rcases hi with z | z
    · omega
    · exact z
  · rw [if_neg e]
    exact h.2.1 i m hi
theorem Can_up {c : CS} {k j : Nat} {v : Int32} (h : Can c) (hk : k < 12) (hj : j < dim k) : Can (cA c k (upd (c.2.1 k) j v)) :=
  Can_cA h hk (fun m hm => by
    rw [upd_o (by omega)]
    exact h.2.1 k m (Or.inr hm))
theorem Can_cpy {c : CS} {k : Nat} {f : Nat → Int32} (h : Can c) (hk : k < 12) : Can (cA c k (va_cpy f (c.2.1 k) 0 0 (dim k))) :=
  Can_cA h hk (fun m hm => by
    unfold va_cpy
    rw [if_neg (by omega)]
    exact h.2.1 k m (Or.inr hm))
theorem Can_cL {c : CS} {f : Nat → Int64} (h : Can c) (hf : ∀ m, 12 ≤ m → f m = 0) : Can (cL c f) := ⟨h.1, h.2.1, hf⟩
/-- equal where it counts -/
def EqC (a b : CS) : Prop := (∀ i, i < 10 → a.1 i = b.1 i) ∧ (∀ k m, k < 12 → m < dim k → a.2.1 k m = b.2.1 k m) ∧ ∀ m, m < 12 → a.2.2 m = b.2.2 m
theorem EqC.eq {a b : CS} (h : EqC a b) (ha : Can a) (hb : Can b) : a = b := by
  obtain ⟨a1, a2, a3⟩ := a
  obtain ⟨b1, b2, b3⟩ := b
  have e1 : a1 = b1 := by
    funext i
    rcases Nat.lt_or_ge i 10 with z | z
    · exact h.1 i z
    · exact (ha.1 i z).trans (hb.1 i z).symm
  have e2 : a2 = b2 := by
    funext k m
    by_cases z : 12 ≤ k ∨ dim k ≤ m
    · exact (ha.2.1 k m z).trans (hb.2.1 k m z).symm
    · exact h.2.1 k m (by omega) (by omega)
  have e3 : a3 = b3 := by
    funext m
    rcases Nat.lt_or_ge m 12 with z | z
    · exact h.2.2 m z
    · exact (ha.2.2 m z).trans (hb.2.2 m z).symm
  rw [e1, e2, e3]
/-- a copy is the club itself -/
theorem t_copyC {a b : CS} {Post : CS × CS → Prop} (ca : Can a) (cb : Can b) (h01 : b.1 1 = 0 ∨ b.1 1 = 1) (h : Post (b, b)) : wp_Clb_copyFrom (a, b) Post := by
  have key : ∀ a' : CS, EqC a' b → Can a' → Post (a', b) := fun a' e ca' => by
    rw [e.eq ca' cb]
    exact h
  unfold wp_Clb_copyFrom wp_Crd_copyFrom wp_Hmp_copyFrom wp_Acc_copyFrom
  simp only [forall_eq, c0, c4, c12]
  refine ⟨h01, key _ ⟨fun i hi => ?_, fun k m hk hm => ?_, fun m hm => ?_⟩ ?_⟩
  · have : i = 0 ∨ i = 1 ∨ i = 2 ∨ i = 3 ∨ i = 4 ∨ i = 5 ∨ i = 6 ∨ i = 7 ∨ i = 8 ∨ i = 9 := by omega
    rcases this with rfl | rfl | rfl | rfl | rfl | rfl | rfl | rfl | rfl | rfl <;> rfl
  · have : k = 0 ∨ k = 1 ∨ k = 2 ∨ k = 3 ∨ k = 4 ∨ k = 5 ∨ k = 6 ∨ k = 7 ∨ k = 8 ∨ k = 9 ∨ k = 10 ∨ k = 11 := by omega
    rcases this with rfl | rfl | rfl | rfl | rfl | rfl | rfl | rfl | rfl | rfl | rfl | rfl <;> exact cpy_lt hm
  · exact cpy_lt hm
  · refine Can_cS (Can_cS (Can_cS (Can_cS (Can_cS ?_ (by omega)) (by omega)) (by omega)) (by omega)) (by omega)
    refine Can_cpy (k := 11) ?_ (by omega)
    refine Can_cpy (k := 10) ?_ (by omega)
    refine Can_cpy (k := 9) ?_ (by omega)
    refine Can_cpy (k := 8) ?_ (by omega)
    refine Can_cpy (k := 7) ?_ (by omega)
    refine Can_cpy (k := 6) ?_ (by omega)
    refine Can_cL ?_ (fun m hm => ?_)
    · refine Can_cpy (k := 5) ?_ (by omega)
      refine Can_cpy (k := 4) ?_ (by omega)
      refine Can_cpy (k := 3) ?_ (by omega)
      refine Can_cpy (k := 2) ?_ (by omega)
      refine Can_cpy (k := 1) ?_ (by omega)
      refine Can_cpy (k := 0) ?_ (by omega)
      exact Can_cS (Can_cS (Can_cS (Can_cS (Can_cS ca (by omega)) (by omega)) (by omega)) (by omega)) (by omega)
    · unfold va_cpy
      rw [if_neg (by omega)]
      exact ca.2.2 m hm
def nst (c : CS) (m : Nat) : Nat := (c.2.1 0 m).toNatClampNeg
def wk5 (g : Int64) (w : Nat) : Nat := 5 * w + (if gbit g w = true then 5 else 0)
theorem wk5_le {g : Int64} {w : Nat} (h : w ≤ 60) : wk5 g w ≤ 305 := by
  unfold wk5
  split <;> omega
/-- the latest of the good weeks -/
def Lat (g : Int64) (l : Int32) (w : Nat) : Prop := (l = -9 ∧ ∀ i, i < 64 → gbit g i = false) ∨ ∃ q, q ≤ w ∧ l = nI q ∧ gbit g q = true ∧ ∀ i, q < i → i < 64 → gbit g i = false
def InvG (c : CS) (w N : Nat) : Prop := w ≤ 60 ∧ N ≤ 12 ∧ c.1 0 = nI w ∧ c.1 4 = nI N ∧ (c.1 1 = 0 ∨ c.1 1 = 1)
def InvM (c : CS) (w m : Nat) : Prop := (c.2.1 0 m = nI (nst c m) ∧ nst c m ≤ wk5 (c.2.2 m) w) ∧ (c.2.1 1 m = 0 ∨ c.2.1 1 m = 1 ∨ c.2.1 1 m = 2) ∧ (c.2.1 1 m = 1 → ∃ q, q ≤ w ∧ c.2.1 2 m = nI q) ∧ (c.2.1 5 m = 0 ∨ c.2.1 5 m = 1) ∧ ((c.2.1 9 m = -9 ∧ c.2.1 10 m = 0) ∨ ∃ k, k < 4 ∧ c.2.1 9 m = nI k) ∧ (c.2.1 11 m = -9 ∨ ∃ k, k < 4 ∧ c.2.1 11 m = nI k) ∧ Lat (c.2.2 m) (c.2.1 6 m) w
/-- a place where nobody has joined yet -/
def InvO (c : CS) (m : Nat) : Prop := c.2.1 0 m = 0 ∧ c.2.1 1 m = 0 ∧ c.2.1 4 m = 0 ∧ c.2.1 5 m = 0 ∧ c.2.1 9 m = -9 ∧ c.2.1 11 m = -9 ∧ c.2.2 m = 0
/-- for how many one of the kind is kept -/
def kct (c : CS) (k : Nat) : Nat := fb_ct (fun m => decide (c.2.1 9 m = nI k ∧ c.2.1 10 m = 0)) 12
def InvK (c : CS) (k : Nat) : Prop := (∃ p, 1 ≤ p ∧ p ≤ 200 ∧ c.2.1 7 k = nI p) ∧ ∃ s, c.2.1 8 k = nI s ∧ s + kct c k ≤ 21
/-- a kind's row: the places 1 to n are taken, each once -/
def InvR (c : CS) (N k : Nat) : Prop := ∃ n, n ≤ 12 ∧ (∀ i, i < n → ∃ m, m < N ∧ c.2.1 9 m = nI k ∧ c.2.1 10 m = nI (i + 1)) ∧ (∀ m, m < 12 → c.2.1 9 m = nI k → c.2.1 10 m = 0 ∨ ∃ i, i < n ∧ c.2.1 10 m = nI (i + 1)) ∧ ∀ m m', m < 12 → m' < 12 → c.2.1 9 m = nI k → c.2.1 9 m' = nI k → c.2.1 10 m = c.2.1 10 m' → c.2.1 10 m = 0 ∨ m = m'
/-- all but the accounts -/
def Base (c : CS) (w N : Nat) : Prop := Can c ∧ InvG c w N ∧ (∀ m, m < 12 → InvM c w m) ∧ (∀ m, N ≤ m → m < 12 → InvO c m) ∧ ∀ k, k < 4 → InvK c k ∧ InvR c N k
/-- sums over the members -/
def bsum (b : Nat → Int32) : Nat → Int32
  | 0 => 0
  | n + 1 => bsum b n + b n
def nsum (b : Nat → Nat) : Nat → Nat
  | 0 => 0
  | n + 1 => nsum b n + b n
theorem bsum_cong {f g : Nat → Int32} : ∀ n, (∀ m, m < n → f m = g m) → bsum f n = bsum g n := by
  intro n
  induction n with
  | zero => intro _; rfl
  | succ n ih =>
    intro h
    show bsum f n + f n = bsum g n + g n
    rw [ih (fun m hm => h m (by omega)), h n (by omega)]
theorem nsum_cong {f g : Nat → Nat} : ∀ n, (∀ m, m < n → f m = g m) → nsum f n = nsum g n := by
  intro n
  induction n with
  | zero => intro _; rfl
  | succ n ih =>
    intro h
    show nsum f n + f n = nsum g n + g n
    rw [ih (fun m hm => h m (by omega)), h n (by omega)]
theorem nsum_le {f g : Nat → Nat} : ∀ n, (∀ m, m < n → f m ≤ g m) → nsum f n ≤ nsum g n := by
  intro n
  induction n with
  | zero => intro _; exact Nat.le_refl _
  | succ n ih =>
    intro h
    have := ih (fun m hm => h m (by omega))
    have := h n (by omega)
    show nsum f n + f n ≤ nsum g n + g n
    omega
theorem nsum_bd {f : Nat → Nat} {M : Nat} : ∀ n, (∀ m, m < n → f m ≤ M) → nsum f n ≤ M * n := by
  intro n
  induction n with
  | zero => intro _; exact Nat.le_refl _
  | succ n ih =>
    intro h
    have := ih (fun m hm => h m (by omega))
    have := h n (by omega)
    show nsum f n + f n ≤ M * (n + 1)
    rw [Nat.mul_succ]
    omega
theorem bsum_one {f g : Nat → Int32} {j : Nat} : ∀ {n : Nat}, j < n → (∀ m, m < n → m ≠ j → g m = f m) → bsum g n = bsum f n - f j + g j := by
  intro n
  induction n with
  | zero => intro h; omega
  | succ n ih =>
    intro h hg
    show bsum g n + g n = bsum f n + f n - f j + g j
    by_cases e : j = n
    · subst e
      rw [bsum_cong j (fun m hm => hg m (by omega) (by omega))]
      grind
    · rw [ih (by omega) (fun m hm => hg m (by omega)), hg n (by omega) (by omega)]
      grind
theorem nsum_one {f g : Nat → Nat} {j : Nat} : ∀ {n : Nat}, j < n → (∀ m, m < n → m ≠ j → g m = f m) → nsum g n + f j = nsum f n + g j := by
  intro n
  induction n with
  | zero => intro h; omega
  | succ n ih =>
    intro h hg
    show nsum g n + g n + f j = nsum f n + f n + g j
    by_cases e : j = n
    · subst e
      rw [nsum_cong j (fun m hm => hg m (by omega) (by omega))]
      omega
    · have := ih (by omega) (fun m hm => hg m (by omega))
      rw [hg n (by omega) (by omega)]
      omega
theorem bsum_nsum {f : Nat → Int32} {g : Nat → Nat} : ∀ n, (∀ m, m < n → f m = nI (g m)) → bsum f n = nI (nsum g n) := by
  intro n
  induction n with
  | zero => intro _; rfl
  | succ n ih =>
    intro h
    show bsum f n + f n = nI (nsum g n + g n)
    rw [ih (fun m hm => h m (by omega)), h n (by omega), nI_add]
theorem bsum_0 : ∀ {n : Nat} {f : Nat → Int32}, (∀ m, m < n → f m = 0) → bsum f n = 0 := by
  intro n
  induction n with
  | zero => intro _ _; rfl
  | succ n ih =>
    intro f h
    show bsum f n + f n = 0
    rw [ih (fun m hm => h m (by omega)), h n (by omega)]
    rfl
theorem nsum_0 : ∀ {n : Nat} {f : Nat → Nat}, (∀ m, m < n → f m = 0) → nsum f n = 0 := by
  intro n
  induction n with
  | zero => intro _ _; rfl
  | succ n ih =>
    intro f h
    show nsum f n + f n = 0
    rw [ih (fun m hm => h m (by omega)), h n (by omega)]
def gotF (c : CS) (m : Nat) : Int32 := if c.2.1 11 m < 0 then 0 else 1
def capN (c : CS) (w : Nat) : Nat := nsum (fun m => 10 * wk5 (c.2.2 m) w) 12
/-- the accounts: the tin has the stamps' worth and a rest -/
def AccE (c : CS) (N : Nat) (R : Int32) : Prop := c.1 5 = 10 * bsum (c.2.1 0) N + R ∧ c.1 7 = c.1 5 + c.1 8 + c.1 9 ∧ c.1 8 = bsum (c.2.1 4) N ∧ c.1 2 = bsum (gotF c) N
def InvU (c : CS) (w : Nat) : Prop := (∀ m, m < 12 → c.2.1 11 m = -9 ∧ ¬ c.2.1 1 m = 2) ∧ ∃ P, c.1 6 = nI P ∧ 10 * nsum (nst c) 12 + P ≤ capN c w
def InvZ (c : CS) (N : Nat) : Prop := (∀ m, m < N → c.2.1 1 m = 2) ∧ (∀ m, m < 12 → c.2.1 0 m = 0 ∧ c.2.1 9 m = -9) ∧ c.1 6 = 0 ∧ ∃ T, T < 2 ^ 31 ∧ c.1 5 = nI T
def Inv (c : CS) (w N : Nat) : Prop := Base c w N ∧ (∃ R, AccE c N R ∧ (c.1 1 = 0 → R = c.1 6)) ∧ (c.1 1 = 0 → InvU c w) ∧ (c.1 1 = 1 → InvZ c N)
/-- what stays as it is -/
theorem nst_eq {c c' : CS} {m : Nat} (h : c'.2.1 0 m = c.2.1 0 m) : nst c' m = nst c m := by
  unfold nst
  rw [h]
theorem InvM_eq {c c' : CS} {w m : Nat} (h : InvM c w m) (ha : ∀ a, a ≠ 3 → a ≠ 4 → a ≠ 7 → a ≠ 8 → c'.2.1 a m = c.2.1 a m) (hg : c'.2.2 m = c.2.2 m) : InvM c' w m := by
  have e0 := ha 0 (by omega) (by omega) (by omega) (by omega)
  unfold InvM
  rw [nst_eq e0, e0, ha 1 (by omega) (by omega) (by omega) (by omega), ha 2 (by omega) (by omega) (by omega) (by omega), ha 5 (by omega) (by omega) (by omega) (by omega), ha 6 (by omega) (by omega) (by omega) (by omega), ha 9 (by omega) (by omega) (by omega) (by omega), ha 10 (by omega) (by omega) (by omega) (by omega), ha 11 (by omega) (by omega) (by omega) (by omega), hg]
  exact h
theorem InvO_eq {c c' : CS} {m : Nat} (h : InvO c m) (ha : ∀ a, a ≠ 3 → a ≠ 7 → a ≠ 8 → c'.2.1 a m = c.2.1 a m) (hg : c'.2.2 m = c.2.2 m) : InvO c' m := by
  unfold InvO
  rw [ha 0 (by omega) (by omega) (by omega), ha 1 (by omega) (by omega) (by omega), ha 4 (by omega) (by omega) (by omega), ha 5 (by omega) (by omega) (by omega), ha 9 (by omega) (by omega) (by omega), ha 11 (by omega) (by omega) (by omega), hg]
  exact h
theorem kct_eq {c c' : CS} {k : Nat} (h9 : ∀ m, m < 12 → c'.2.1 9 m = c.2.1 9 m) (h10 : ∀ m, m < 12 → c'.2.1 10 m = c.2.1 10 m) : kct c' k = kct c k :=
  fb_ct_cong (fun m hm => by rw [h9 m hm, h10 m hm])
theorem InvK_eq {c c' : CS} {k : Nat} (h : InvK c k) (h7 : c'.2.1 7 k = c.2.1 7 k) (h8 : c'.2.1 8 k = c.2.1 8 k) (h9 : ∀ m, m < 12 → c'.2.1 9 m = c.2.1 9 m) (h10 : ∀ m, m < 12 → c'.2.1 10 m = c.2.1 10 m) : InvK c' k := by
  unfold InvK
  rw [h7, h8, kct_eq h9 h10]
  exact h
theorem InvR_eq {c c' : CS} {N N' k : Nat} (h : InvR c N k) (hN : N ≤ N') (hN' : N ≤ 12) (h9 : ∀ m, m < 12 → c'.2.1 9 m = c.2.1 9 m) (h10 : ∀ m, m < 12 → c'.2.1 10 m = c.2.1 10 m) : InvR c' N' k := by
  obtain ⟨n, n1, n2, n3, n4⟩ := h
  refine ⟨n, n1, fun i hi => ?_, fun m hm e => ?_, fun m m' hm hm' e e' q => ?_⟩
  · obtain ⟨m, m1, m2, m3⟩ := n2 i hi
    exact ⟨m, by omega, by rw [h9 m (by omega)]; exact m2, by rw [h10 m (by omega)]; exact m3⟩
  · rw [h9 m hm] at e
    rw [h10 m hm]
    exact n3 m hm e
  · rw [h9 m hm] at e
    rw [h9 m' hm'] at e'
    rw [h10 m hm, h10 m' hm'] at q
    rw [h10 m hm]
    exact n4 m m' hm hm' e e' q
theorem InvG_eq {c c' : CS} {w N : Nat} (h : InvG c w N) (h0 : c'.1 0 = c.1 0) (h1 : c'.1 1 = c.1 1) (h4 : c'.1 4 = c.1 4) : InvG c' w N := by
  unfold InvG
  rw [h0, h1, h4]
  exact h
/-- a change that touches neither rows nor kinds -/
theorem Base_of {c c' : CS} {w w' N N' : Nat} (h : Base c w N) (hc : Can c') (hG : InvG c' w' N') (hM : ∀ m, m < 12 → InvM c' w' m) (hO : ∀ m, N' ≤ m → m < 12 → InvO c' m) (hN : N ≤ N') (h7 : ∀ k, k < 4 → c'.2.1 7 k = c.2.1 7 k) (h8 : ∀ k, k < 4 → c'.2.1 8 k = c.2.1 8 k) (h9 : ∀ m, m < 12 → c'.2.1 9 m = c.2.1 9 m) (h10 : ∀ m, m < 12 → c'.2.1 10 m = c.2.1 10 m) : Base c' w' N' :=
  ⟨hc, hG, hM, hO, fun k hk => ⟨InvK_eq (h.2.2.2.2 k hk).1 (h7 k hk) (h8 k hk) h9 h10, InvR_eq (h.2.2.2.2 k hk).2 hN h.2.1.2.1 h9 h10⟩⟩
