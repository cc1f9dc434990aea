/-! Rows: counting (fb_.. began as the given laws), and the class's walks over its members. -/
theorem fb_holes : ∀ (m n : Nat) (f : Nat → Nat), (∀ i, i < n → f i < m) → (∀ i j, i < j → j < n → f i ≠ f j) → n ≤ m := by
  intro m
  induction m with
  | zero =>
    intro n f h1 _
    rcases Nat.eq_zero_or_pos n with h | h
    · omega
    · exact absurd (h1 0 h) (Nat.not_lt_zero _)
  | succ m ih =>
    intro n f h1 h2
    by_cases hx : ∃ i, i < n ∧ f i = m
    · obtain ⟨a, ha, hfa⟩ := hx
      have hg := ih (n - 1) (fun i => if i < a then f i else f (i + 1)) (by
        intro i hi
        by_cases q : i < a
        · simp only [if_pos q]
          have b1 := h1 i (by omega)
          have b2 := h2 i a q ha
          omega
        · simp only [if_neg q]
          have b1 := h1 (i + 1) (by omega)
          have b2 := h2 a (i + 1) (by omega) (by omega)
          omega) (by
        intro i j hij hj
        by_cases q : i < a
        · by_cases r : j < a
          · simp only [if_pos q, if_pos r]
            exact h2 i j hij (by omega)
          · simp only [if_pos q, if_neg r]
            exact h2 i (j + 1) (by omega) (by omega)
        · have r : ¬ j < a := by omega
          simp only [if_neg q, if_neg r]
          exact h2 (i + 1) (j + 1) (by omega) (by omega))
      omega
    · have hg := ih n f (fun i hi => by
        have b1 := h1 i hi
        have b2 : f i ≠ m := fun e => hx ⟨i, hi, e⟩
        omega) h2
      omega
def fb_ct (p : Nat → Bool) : Nat → Nat
  | 0 => 0
  | n + 1 => fb_ct p n + (if p n then 1 else 0)
theorem fb_ct_succ (p : Nat → Bool) (n : Nat) : fb_ct p (n + 1) = fb_ct p n + (if p n then 1 else 0) := rfl
theorem fb_ct_cong {p q : Nat → Bool} : ∀ {n : Nat}, (∀ k, k < n → p k = q k) → fb_ct p n = fb_ct q n
  | 0, _ => rfl
  | n + 1, h => by
    rw [fb_ct_succ, fb_ct_succ, fb_ct_cong (fun k hk => h k (by omega)), h n (by omega)]
theorem fb_ct_out (p : Nat → Bool) (b : Bool) {i n : Nat} (h : n ≤ i) : fb_ct (fun k => if k = i then b else p k) n = fb_ct p n :=
  fb_ct_cong fun k hk => if_neg (by omega)
theorem fb_ct_upd (p : Nat → Bool) (b : Bool) {i : Nat} : ∀ {n : Nat}, i < n → fb_ct (fun k => if k = i then b else p k) n + (if p i then 1 else 0) = fb_ct p n + (if b then 1 else 0)
  | 0, h => absurd h (Nat.not_lt_zero i)
  | n + 1, h => by
    rw [fb_ct_succ, fb_ct_succ]
    rcases Nat.lt_or_ge i n with q | q
    · have := fb_ct_upd p b q
      have e : (if n = i then b else p n) = p n := if_neg (by omega)
      rw [e]
      omega
    · have e : i = n := by omega
      subst e
      rw [fb_ct_out p b (Nat.le_refl _)]
      simp only [if_true]
      omega
theorem fb_ct_zero {p : Nat → Bool} : ∀ {n : Nat}, fb_ct p n = 0 ↔ ∀ k, k < n → p k = false
  | 0 => ⟨fun _ k hk => absurd hk (Nat.not_lt_zero k), fun _ => rfl⟩
  | n + 1 => by
    have h := fb_ct_zero (p := p) (n := n)
    rw [fb_ct_succ]
    constructor
    · intro e k hk
      have e1 : fb_ct p n = 0 := by omega
      rcases Nat.lt_or_ge k n with q | q
      · exact h.mp e1 k q
      · have ek : k = n := by omega
        subst ek
        cases hp : p k
        · rfl
        · simp [hp] at e
    · intro a
      rw [h.mpr (fun k hk => a k (by omega)), a n (by omega)]
      rfl
theorem ct_bij : ∀ (n N : Nat) (p : Nat → Bool) (f : Nat → Nat), (∀ i, i < n → f i < N ∧ p (f i) = true) → (∀ i j, i < n → j < n → f i = f j → i = j) → (∀ m, m < N → p m = true → ∃ i, i < n ∧ f i = m) → fb_ct p N = n := by
  intro n
  induction n with
  | zero =>
    intro N p f h1 h2 h3
    refine fb_ct_zero.mpr (fun k hk => ?_)
    cases hp : p k with
    | false => rfl
    | true =>
      obtain ⟨i, hi, -⟩ := h3 k hk hp
      omega
  | succ n ih =>
    intro N p f h1 h2 h3
    obtain ⟨g1, g2⟩ := h1 n (by omega)
    have e := fb_ct_upd p false (i := f n) (n := N) g1
    rw [g2] at e
    have e2 : fb_ct (fun k => if k = f n then false else p k) N = n := by
      refine ih N _ f (fun i hi => ?_) (fun i j hi hj => h2 i j (by omega) (by omega)) (fun m hm hp => ?_)
      · refine ⟨(h1 i (by omega)).1, ?_⟩
        rw [if_neg (fun q => absurd (h2 i n (by omega) (by omega) q) (by omega))]
        exact (h1 i (by omega)).2
      · by_cases em : m = f n
        · rw [if_pos em] at hp
          exact absurd hp (by decide)
        · rw [if_neg em] at hp
          obtain ⟨i, hi, ei⟩ := h3 m hm hp
          refine ⟨i, ?_, ei⟩
          rcases Nat.lt_or_ge i n with z | z
          · exact z
          · have : i = n := by omega
            subst this
            exact absurd ei.symm em
    rw [e2] at e
    simp at e
    omega
theorem i12 {i : Nat} (hi : i ≤ 12) : ((12 : Int32) ≤ nI i) ↔ i = 12 := by
  rw [show (12 : Int32) = nI 12 from rfl, nI_leI (by omega) (by omega)]
  omega
/-- who stands so far behind the front -/
def PW (c : CS) (k a m : Nat) : Prop := c.2.1 9 m = nI k ∧ ¬ c.2.1 10 m ≤ 0 ∧ c.2.1 10 m - 1 = nI a
theorem l_mir {c : CS} {k a : Nat} {Post : Int32 → CS → Prop} (h : ∀ m, m < 12 → PW c k a m → (∀ m', m' < m → ¬ PW c k a m') → Post (nI m) c) (h0 : (∀ m, m < 12 → ¬ PW c k a m) → Post (-9) c) : ∀ (n i : Nat), i ≤ 12 → 12 - i < n → (∀ m', m' < i → ¬ PW c k a m') → wl_Hmp_memberInRow_2 Post (fun u => Post (-9) u) n (nI k) (nI a) (nI i) c := by
  intro n
  induction n with
  | zero => intro i h1 h2; omega
  | succ n ih =>
    intro i h1 h2 h3
    unfold wl_Hmp_memberInRow_2
    rw [i12 h1, nI_clamp (by omega)]
    refine ⟨fun q => h0 (fun m hm => h3 m (by omega)), fun q => ?_⟩
    have hin : vp_in (nI i) 12 := vp_in_nI (by omega) (by omega)
    have step : ¬ PW c k a i → wl_Hmp_memberInRow_2 Post (fun u => Post (-9) u) n (nI k) (nI a) (nI i + 1) c := fun hp => by
      rw [nI_1]
      refine ih (i + 1) (by omega) (by omega) (fun m' hm' => ?_)
      rcases Nat.lt_or_ge m' i with z | z
      · exact h3 m' z
      · have : m' = i := by omega
        subst this
        exact hp
    refine ⟨hin, fun q1 => ⟨hin, fun q2 => ?_, fun q2 => ⟨hin, fun q3 => ?_, fun q3 => ?_⟩⟩, fun q1 => ?_⟩
    · intro x ex
      rw [ex]
      exact step (fun z => z.2.1 q2)
    · exact h i (by omega) ⟨q1, q2, q3⟩ h3
    · intro x ex
      rw [ex]
      exact step (fun z => q3 z.2.2)
    · intro x ex
      rw [ex]
      exact step (fun z => q1 z.1)
theorem k_mir {c : CS} {k a : Nat} {Post : Int32 → CS → Prop} (h : ∀ m, m < 12 → PW c k a m → (∀ m', m' < m → ¬ PW c k a m') → Post (nI m) c) (h0 : (∀ m, m < 12 → ¬ PW c k a m) → Post (-9) c) : wp_Hmp_memberInRow c (nI k) (nI a) Post :=
  ⟨13, l_mir h h0 13 0 (by omega) (by omega) (fun m' hm' => by omega)⟩
/-- how many wait -/
def pw (c : CS) (k m : Nat) : Bool := decide (c.2.1 9 m = nI k ∧ ¬ c.2.1 10 m ≤ 0)
theorem l_rowLength {c : CS} {k : Nat} {Post : Int32 → CS → Prop} (h : Post (nI (fb_ct (pw c k) 12)) c) : ∀ (n i : Nat), i ≤ 12 → 12 - i < n → wl_Hmp_rowLength_4 Post (fun x u => Post x u) n (nI k) (nI (fb_ct (pw c k) i)) (nI i) c := by
  intro n
  induction n with
  | zero => intro i h1 h2; omega
  | succ n ih =>
    intro i h1 h2
    unfold wl_Hmp_rowLength_4
    rw [i12 h1, nI_clamp (by omega)]
    refine ⟨fun q => by subst q; exact h, fun q => ?_⟩
    have hin : vp_in (nI i) 12 := vp_in_nI (by omega) (by omega)
    have e := fb_ct_succ (pw c k) i
    have go : ∀ x y : Int32, y = nI i + 1 → x = nI (fb_ct (pw c k) (i + 1)) → wl_Hmp_rowLength_4 Post (fun x u => Post x u) n (nI k) x y c := fun x y e1 e2 => by
      rw [e1, e2, nI_1]
      exact ih (i + 1) (by omega) (by omega)
    refine ⟨hin, fun q1 => ⟨hin, fun q2 => ?_, fun q2 => ?_⟩, fun q1 => ?_⟩
    · intro x ex y ey
      refine go x y ey ?_
      have hp : pw c k i = false := by unfold pw; exact decide_eq_false (fun z => z.2 q2)
      rw [ex, e, hp, show (0 : Int32) = nI 0 from rfl, nI_add]
      rfl
    · intro x ex y ey
      refine go x y ey ?_
      have hp : pw c k i = true := by unfold pw; exact decide_eq_true ⟨q1, q2⟩
      rw [ex, e, hp, show (1 : Int32) = nI 1 from rfl, nI_add]
      rfl
    · intro x ex y ey
      refine go x y ey ?_
      have hp : pw c k i = false := by unfold pw; exact decide_eq_false (fun z => q1 z.1)
      rw [ex, e, hp, show (0 : Int32) = nI 0 from rfl, nI_add]
      rfl
theorem k_rowLength {c : CS} {k : Nat} {Post : Int32 → CS → Prop} (h : Post (nI (fb_ct (pw c k) 12)) c) : wp_Hmp_rowLength c (nI k) Post :=
  ⟨13, l_rowLength h 13 0 (by omega) (by omega)⟩
theorem cA_cA (c : CS) (k : Nat) (f g : Nat → Int32) : cA (cA c k f) k g = cA c k g := by
  unfold cA
  congr 2
  funext j
  by_cases e : j = k
  · simp [e]
  · simp [e]
theorem cA_self (c : CS) (k : Nat) : cA c k (c.2.1 k) = c := by
  unfold cA
  have : (fun j => if j = k then c.2.1 k else c.2.1 j) = c.2.1 := by
    funext j
    by_cases e : j = k
    · simp [e]
    · simp [e]
  rw [this]
/-- the places behind one that leaves: those of this row that stand behind so many move up -/
def dpl (c : CS) (k lf i : Nat) : Nat → Int32 := fun o => if o < i ∧ c.2.1 9 o = nI k ∧ ¬ c.2.1 10 o ≤ nI lf then c.2.1 10 o - 1 else c.2.1 10 o
theorem l_drop {c : CS} {k lf : Nat} {nx : Int32} {Post : Int32 → CS → Prop} {K : Int32 → Int32 → Int32 → CS → Prop} (h : K (nI k) (nI lf) nx (cA c 10 (dpl c k lf 12))) : ∀ (n i : Nat), i ≤ 12 → 12 - i < n → wl_Hmp_drop_42 Post K n (nI k) (nI lf) nx (nI i) (cA c 10 (dpl c k lf i)) := by
  intro n
  induction n with
  | zero => intro i h1 h2; omega
  | succ n ih =>
    intro i h1 h2
    unfold wl_Hmp_drop_42
    rw [i12 h1, nI_clamp (by omega)]
    refine ⟨fun q => by subst q; exact h, fun q => ?_⟩
    have hin : vp_in (nI i) 12 := vp_in_nI (by omega) (by omega)
    have e9 : (cA c 10 (dpl c k lf i)).2.1 9 i = c.2.1 9 i := rfl
    have e10 : (cA c 10 (dpl c k lf i)).2.1 10 i = c.2.1 10 i := by
      show dpl c k lf i i = _
      unfold dpl
      rw [if_neg (by omega)]
    rw [e9, e10]
    have stay : ¬ (c.2.1 9 i = nI k ∧ ¬ c.2.1 10 i ≤ nI lf) → dpl c k lf (i + 1) = dpl c k lf i := fun hz => by
      funext o
      unfold dpl
      by_cases eo : o = i
      · subst eo
        rw [if_neg (fun z => hz z.2), if_neg (by omega)]
      · by_cases z : o < i
        · simp [z, show o < i + 1 by omega]
        · simp [z, show ¬ o < i + 1 by omega]
    refine ⟨hin, fun q1 => ⟨hin, fun q2 => ?_, fun q2 => ⟨hin, hin, ?_⟩⟩, fun q1 => ?_⟩
    · intro x ex
      rw [ex, nI_1, ← stay (fun z => z.2 q2)]
      exact ih (i + 1) (by omega) (by omega)
    · intro u eu x ex
      rw [eu, ex, nI_1, cA_cA]
      have e : upd ((cA c 10 (dpl c k lf i)).2.1 10) i (c.2.1 10 i - 1) = dpl c k lf (i + 1) := by
        funext o
        show upd (dpl c k lf i) i (c.2.1 10 i - 1) o = _
        rw [upd_if]
        unfold dpl
        by_cases eo : o = i
        · subst eo
          rw [if_pos rfl, if_pos ⟨by omega, q1, q2⟩]
        · rw [if_neg eo]
          by_cases z : o < i
          · simp [z, show o < i + 1 by omega]
          · simp [z, show ¬ o < i + 1 by omega]
      rw [e]
      exact ih (i + 1) (by omega) (by omega)
    · intro x ex
      rw [ex, nI_1, ← stay (fun z => q1 z.1)]
      exact ih (i + 1) (by omega) (by omega)
theorem dpl_0 (c : CS) (k lf : Nat) : cA c 10 (dpl c k lf 0) = c := by
  have : dpl c k lf 0 = c.2.1 10 := by
    funext o
    unfold dpl
    rw [if_neg (by omega)]
  rw [this, cA_self]
