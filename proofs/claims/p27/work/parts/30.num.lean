/-! Numbers, bits, and the small methods of the cards (rows from the proof of the other row, which see). -/
theorem upd_if (f : Nat → Int32) (k : Nat) (v : Int32) (j : Nat) : upd f k v j = if j = k then v else f j := rfl
theorem updL_if (f : Nat → Int64) (k : Nat) (v : Int64) (j : Nat) : vp_updL f k v j = if j = k then v else f j := rfl
theorem upd_o {f : Nat → Int32} {k j : Nat} {v : Int32} (h : j ≠ k) : upd f k v j = f j := if_neg h
theorem upd_s {f : Nat → Int32} {k : Nat} {v : Int32} : upd f k v k = v := if_pos rfl
theorem cS1 (c : CS) (k : Nat) (v : Int32) (i : Nat) : (cS c k v).1 i = if i = k then v else c.1 i := rfl
theorem cS2 (c : CS) (k : Nat) (v : Int32) : (cS c k v).2 = c.2 := rfl
theorem cA1 (c : CS) (k : Nat) (g : Nat → Int32) : (cA c k g).1 = c.1 := rfl
theorem cA2 (c : CS) (k : Nat) (g : Nat → Int32) (i : Nat) : (cA c k g).2.1 i = if i = k then g else c.2.1 i := rfl
theorem cA3 (c : CS) (k : Nat) (g : Nat → Int32) : (cA c k g).2.2 = c.2.2 := rfl
theorem cL1 (c : CS) (g : Nat → Int64) : (cL c g).1 = c.1 := rfl
theorem cL2 (c : CS) (g : Nat → Int64) : (cL c g).2.1 = c.2.1 := rfl
theorem cL3 (c : CS) (g : Nat → Int64) : (cL c g).2.2 = g := rfl
def isM (N : Nat) (p : Int32) : Prop := 0 ≤ p.toInt ∧ p.toInt < N
theorem isM_of {N : Nat} {p : Int32} (h : isM N p) (hN : N ≤ 12) : ∃ j, j < N ∧ p = nI j := vp_in_of (vp_in_iff.mpr h) (by omega)
theorem isM_nI {N j : Nat} (h : j < N) (hN : N ≤ 12) : isM N (nI j) := by
  unfold isM
  rw [nI_toInt (by omega)]
  omega
theorem nI_nn {n : Nat} (h : n < 2 ^ 31) : (0 : Int32) ≤ nI n := nI_pos' h
theorem lit_of {k : Int32} {n : Nat} (hn : n < 2 ^ 30) (h0 : 0 ≤ k.toInt) (h : k.toInt ≤ n) : ∃ x : Nat, x ≤ n ∧ k = nI x := by
  obtain ⟨j, hj, e⟩ := vp_in_of (vp_in_iff.mpr ⟨h0, (by omega : k.toInt < ((n + 1 : Nat) : Int))⟩) (by omega)
  exact ⟨j, by omega, e⟩
def gbit (g : Int64) (i : Nat) : Bool := g.toBitVec.getLsbD i
theorem w63 : ∀ k, k < 64 → ((((nI k).toInt64 &&& 63) : Int64).toBitVec.smod 64).toNat = k := by decide +kernel
theorem g_shr (x : Int64) {k i : Nat} (hk : k < 64) (hi : k + i < 64) : gbit (x >>> ((nI k).toInt64 &&& 63)) i = gbit x (k + i) := by
  unfold gbit
  rw [Int64.toBitVec_shiftRight]
  show (x.toBitVec.sshiftRight ((((nI k).toInt64 &&& 63) : Int64).toBitVec.smod 64).toNat).getLsbD i = _
  rw [w63 k hk, BitVec.getLsbD_sshiftRight]
  simp [hi, show i < 64 by omega]
theorem g_shl (x : Int64) {k i : Nat} (hk : k < 64) (hi : i < 64) : gbit (x <<< ((nI k).toInt64 &&& 63)) i = (decide (k ≤ i) && gbit x (i - k)) := by
  unfold gbit
  rw [Int64.toBitVec_shiftLeft]
  show (x.toBitVec <<< ((((nI k).toInt64 &&& 63) : Int64).toBitVec.smod 64).toNat).getLsbD i = _
  rw [w63 k hk, BitVec.getLsbD_shiftLeft]
  rcases Nat.lt_or_ge i k with h | h
  · simp [h, Nat.not_le.mpr h]
  · simp [hi, h, Nat.not_lt.mpr h]
theorem g_and (x y : Int64) (i : Nat) : gbit (x &&& y) i = (gbit x i && gbit y i) := by unfold gbit; rw [Int64.toBitVec_and, BitVec.getLsbD_and]
theorem g_or (x y : Int64) (i : Nat) : gbit (x ||| y) i = (gbit x i || gbit y i) := by unfold gbit; rw [Int64.toBitVec_or, BitVec.getLsbD_or]
theorem g_1 : ∀ i, i < 64 → gbit 1 i = decide (i = 0) := by decide +kernel
theorem g_ext {x y : Int64} (h : ∀ i, i < 64 → gbit x i = gbit y i) : x = y := Int64.toBitVec_inj.mp (BitVec.eq_of_getLsbD_eq (fun i hi => h i hi))
theorem cls_bit {x : Int64} {w : Nat} (hw : w < 64) : lg_cmp ((x >>> ((nI w).toInt64 &&& 63)) &&& 1) 1 = 0 ↔ gbit x w = true := by
  have h0 : lg_cmp ((x >>> ((nI w).toInt64 &&& 63)) &&& 1) 1 = 0 ↔ ((x >>> ((nI w).toInt64 &&& 63)) &&& 1) = 1 := by
    unfold lg_cmp
    by_cases h1 : ((x >>> ((nI w).toInt64 &&& 63)) &&& 1) > 1
    · rw [if_pos h1]
      refine ⟨fun h => absurd h (by decide), fun h => ?_⟩
      rw [h] at h1
      exact absurd h1 (by decide)
    · rw [if_neg h1]
      by_cases h2 : ((x >>> ((nI w).toInt64 &&& 63)) &&& 1) = 1
      · simp [h2]
      · simp [h2]
  rw [h0]
  constructor
  · intro h
    have h1 := congrArg (fun z => gbit z 0) h
    simp only [g_and, g_1 0 (by omega)] at h1
    rw [g_shr x hw (by omega)] at h1
    simpa using h1
  · intro h
    refine g_ext (fun i hi => ?_)
    rw [g_and, g_1 i hi]
    by_cases hi0 : i = 0
    · subst hi0
      rw [g_shr x hw (by omega)]
      simp [h]
    · simp [hi0]
theorem cls_set {x : Int64} {w i : Nat} (hw : w < 64) (hi : i < 64) : gbit (x ||| ((1 : Int64) <<< ((nI w).toInt64 &&& 63))) i = (gbit x i || decide (i = w)) := by
  rw [g_or, g_shl 1 hw hi]
  congr 1
  by_cases h : w ≤ i
  · rw [g_1 (i - w) (by omega)]
    by_cases e : i = w
    · subst e; simp
    · simp [e, show ¬ i - w = 0 by omega]
  · simp [h, show ¬ i = w by omega]
theorem k_exists {c : CS} {p : Int32} {Post : Int32 → CS → Prop} {N : Nat} (hc : c.1 4 = nI N) (hN : N ≤ 12) (ht : isM N p → Post 1 c) (hf : ¬ isM N p → Post 0 c) : wp_Crd_exists c p Post := by
  unfold wp_Crd_exists
  rw [hc]
  simp only [Int32.lt_iff_toInt_lt, Int32.le_iff_toInt_le, nI_toInt (show N < 2 ^ 31 by omega), show (0 : Int32).toInt = 0 from rfl]
  unfold isM at ht hf
  exact ⟨fun h => hf (by omega), fun h => ⟨fun h2 => hf (by omega), fun h2 => ht (by omega)⟩⟩
theorem k_inHand {c : CS} {j : Nat} {Post : Int32 → CS → Prop} (hj : j < 12) (ht : c.2.1 1 j = 0 → Post 1 c) (hf : ¬ c.2.1 1 j = 0 → Post 0 c) : wp_Crd_isInHand c (nI j) Post := by
  unfold wp_Crd_isInHand
  rw [nI_clamp (by omega)]
  exact ⟨vp_in_nI hj (by omega), ht, hf⟩
theorem k_goodIn {c : CS} {j i : Nat} {Post : Int32 → CS → Prop} (hj : j < 12) (hi : i < 64) (ht : gbit (c.2.2 j) i = true → Post 1 c) (hf : ¬ gbit (c.2.2 j) i = true → Post 0 c) : wp_Crd_isGoodIn c (nI j) (nI i) Post := by
  unfold wp_Crd_isGoodIn
  rw [nI_clamp (by omega), cls_bit hi]
  exact ⟨vp_in_nI hj (by omega), ht, hf⟩
theorem c0 : (0 : Int32).toNatClampNeg = 0 := by decide
theorem c1 : (1 : Int32).toNatClampNeg = 1 := by decide
theorem c2 : (2 : Int32).toNatClampNeg = 2 := by decide
theorem c3 : (3 : Int32).toNatClampNeg = 3 := by decide
theorem c4 : (4 : Int32).toNatClampNeg = 4 := by decide
theorem c5 : (5 : Int32).toNatClampNeg = 5 := by decide
theorem c6 : (6 : Int32).toNatClampNeg = 6 := by decide
theorem c7 : (7 : Int32).toNatClampNeg = 7 := by decide
theorem c8 : (8 : Int32).toNatClampNeg = 8 := by decide
theorem c9 : (9 : Int32).toNatClampNeg = 9 := by decide
theorem c12 : (12 : Int32).toNatClampNeg = 12 := by decide
theorem cpy_lt {α : Type} {f g : Nat → α} {n m : Nat} (h : m < n) : va_cpy f g 0 0 n m = f m := by
  unfold va_cpy
  rw [if_pos (by omega)]
  congr 1
  omega
theorem nI_div {a b : Nat} (ha : a < 2 ^ 31) (hb : b < 2 ^ 31) : nI a / nI b = nI (a / b) := by
  apply Int32.toInt_inj.mp
  have h3 : a / b < 2 ^ 31 := Nat.lt_of_le_of_lt (Nat.div_le_self a b) ha
  rw [Int32.toInt_div, nI_toInt ha, nI_toInt hb, nI_toInt h3, ← Int.ofNat_tdiv]
  generalize a / b = q at h3
  rw [Int.bmod_eq_of_le (by omega) (by omega)]
theorem lt1 {n : Nat} (h : n < 1000) : nI n < 1 ↔ n = 0 := by
  constructor
  · intro q
    rcases Nat.eq_zero_or_pos n with z | z
    · exact z
    · exact absurd q (Int32.not_lt.mpr (show nI 1 ≤ nI n from nI_le z (by omega)))
  · intro q
    subst q
    decide
theorem le0 {n : Nat} (h : n < 1000) : nI n ≤ 0 ↔ n = 0 := by
  rw [show (0 : Int32) = nI 0 from rfl, nI_leI (by omega) (by omega)]
  omega
theorem fb_holes : ∀ (m n : Nat) (f : Nat → Nat), (∀ i, i < n → f i < m) → (∀ i j, i < j → j < n → f i ≠ f j) → n ≤ m := by
  intro m
  induction m with
  | zero =>
    intro n f h1 _
    rcases Nat.eq_zero_or_pos n with h | h
    · omega
    · exact absurd (h1 0 h) (Nat.not_lt_zero _)
  | succ m ih =>
    intro n f h1 h2
    by_cases hx : ∃ i, i < n ∧ f i = m
    · obtain ⟨a, ha, hfa⟩ := hx
      have hg := ih (n - 1) (fun i => if i < a then f i else f (i + 1)) (by
        intro i hi
        by_cases q : i < a
        · simp only [if_pos q]
          have b1 := h1 i (by omega)
          have b2 := h2 i a q ha
          omega
        · simp only [if_neg q]
          have b1 := h1 (i + 1) (by omega)
          have b2 := h2 a (i + 1) (by omega) (by omega)
          omega) (by
        intro i j hij hj
        by_cases q : i < a
        · by_cases r : j < a
          · simp only [if_pos q, if_pos r]
            exact h2 i j hij (by omega)
          · simp only [if_pos q, if_neg r]
            exact h2 i (j + 1) (by omega) (by omega)
        · have r : ¬ j < a := by omega
          simp only [if_neg q, if_neg r]
          exact h2 (i + 1) (j + 1) (by omega) (by omega))
      omega
    · have hg := ih n f (fun i hi => by
        have b1 := h1 i hi
        have b2 : f i ≠ m := fun e => hx ⟨i, hi, e⟩
        omega) h2
      omega
def fb_ct (p : Nat → Bool) : Nat → Nat
  | 0 => 0
  | n + 1 => fb_ct p n + (if p n then 1 else 0)
theorem fb_ct_succ (p : Nat → Bool) (n : Nat) : fb_ct p (n + 1) = fb_ct p n + (if p n then 1 else 0) := rfl
theorem fb_ct_cong {p q : Nat → Bool} : ∀ {n : Nat}, (∀ k, k < n → p k = q k) → fb_ct p n = fb_ct q n
  | 0, _ => rfl
  | n + 1, h => by
    rw [fb_ct_succ, fb_ct_succ, fb_ct_cong (fun k hk => h k (by omega)), h n (by omega)]
theorem fb_ct_out (p : Nat → Bool) (b : Bool) {i n : Nat} (h : n ≤ i) : fb_ct (fun k => if k = i then b else p k) n = fb_ct p n :=
  fb_ct_cong fun k hk => if_neg (by omega)
theorem fb_ct_upd (p : Nat → Bool) (b : Bool) {i : Nat} : ∀ {n : Nat}, i < n → fb_ct (fun k => if k = i then b else p k) n + (if p i then 1 else 0) = fb_ct p n + (if b then 1 else 0)
  | 0, h => absurd h (Nat.not_lt_zero i)
  | n + 1, h => by
    rw [fb_ct_succ, fb_ct_succ]
    rcases Nat.lt_or_ge i n with q | q
    · have := fb_ct_upd p b q
      have e : (if n = i then b else p n) = p n := if_neg (by omega)
      rw [e]
      omega
    · have e : i = n := by omega
      subst e
      rw [fb_ct_out p b (Nat.le_refl _)]
      simp only [if_true]
      omega
theorem fb_ct_zero {p : Nat → Bool} : ∀ {n : Nat}, fb_ct p n = 0 ↔ ∀ k, k < n → p k = false
  | 0 => ⟨fun _ k hk => absurd hk (Nat.not_lt_zero k), fun _ => rfl⟩
  | n + 1 => by
    have h := fb_ct_zero (p := p) (n := n)
    rw [fb_ct_succ]
    constructor
    · intro e k hk
      have e1 : fb_ct p n = 0 := by omega
      rcases Nat.lt_or_ge k n with q | q
      · exact h.mp e1 k q
      · have ek : k = n := by omega
        subst ek
        cases hp : p k
        · rfl
        · simp [hp] at e
    · intro a
      rw [h.mpr (fun k hk => a k (by omega)), a n (by omega)]
      rfl
theorem ct_bij : ∀ (n N : Nat) (p : Nat → Bool) (f : Nat → Nat), (∀ i, i < n → f i < N ∧ p (f i) = true) → (∀ i j, i < n → j < n → f i = f j → i = j) → (∀ m, m < N → p m = true → ∃ i, i < n ∧ f i = m) → fb_ct p N = n := by
  intro n
  induction n with
  | zero =>
    intro N p f h1 h2 h3
    refine fb_ct_zero.mpr (fun k hk => ?_)
    cases hp : p k with
    | false => rfl
    | true =>
      obtain ⟨i, hi, -⟩ := h3 k hk hp
      omega
  | succ n ih =>
    intro N p f h1 h2 h3
    obtain ⟨g1, g2⟩ := h1 n (by omega)
    have e := fb_ct_upd p false (i := f n) (n := N) g1
    rw [g2] at e
    have e2 : fb_ct (fun k => if k = f n then false else p k) N = n := by
      refine ih N _ f (fun i hi => ?_) (fun i j hi hj => h2 i j (by omega) (by omega)) (fun m hm hp => ?_)
      · refine ⟨(h1 i (by omega)).1, ?_⟩
        rw [if_neg (fun q => absurd (h2 i n (by omega) (by omega) q) (by omega))]
        exact (h1 i (by omega)).2
      · by_cases em : m = f n
        · rw [if_pos em] at hp
          exact absurd hp (by decide)
        · rw [if_neg em] at hp
          obtain ⟨i, hi, ei⟩ := h3 m hm hp
          refine ⟨i, ?_, ei⟩
          rcases Nat.lt_or_ge i n with z | z
          · exact z
          · have : i = n := by omega
            subst this
            exact absurd ei.symm em
    rw [e2] at e
    simp at e
    omega
theorem i12 {i : Nat} (hi : i ≤ 12) : ((12 : Int32) ≤ nI i) ↔ i = 12 := by
  rw [show (12 : Int32) = nI 12 from rfl, nI_leI (by omega) (by omega)]
  omega
def PW (c : CS) (k a m : Nat) : Prop := c.2.1 9 m = nI k ∧ ¬ c.2.1 10 m ≤ 0 ∧ c.2.1 10 m - 1 = nI a
theorem l_mir {c : CS} {k a : Nat} {Post : Int32 → CS → Prop} (h : ∀ m, m < 12 → PW c k a m → (∀ m', m' < m → ¬ PW c k a m') → Post (nI m) c) (h0 : (∀ m, m < 12 → ¬ PW c k a m) → Post (-9) c) : ∀ (n i : Nat), i ≤ 12 → 12 - i < n → (∀ m', m' < i → ¬ PW c k a m') → wl_Hmp_memberInRow_2 Post (fun u => Post (-9) u) n (nI k) (nI a) (nI i) c := by
  intro n
  induction n with
  | zero => intro i h1 h2; omega
  | succ n ih =>
    intro i h1 h2 h3
    unfold wl_Hmp_memberInRow_2
    rw [i12 h1, nI_clamp (by omega)]
    refine ⟨fun q => h0 (fun m hm => h3 m (by omega)), fun q => ?_⟩
    have hin : vp_in (nI i) 12 := vp_in_nI (by omega) (by omega)
    have step : ¬ PW c k a i → wl_Hmp_memberInRow_2 Post (fun u => Post (-9) u) n (nI k) (nI a) (nI i + 1) c := fun hp => by
      rw [nI_1]
      refine ih (i + 1) (by omega) (by omega) (fun m' hm' => ?_)
      rcases Nat.lt_or_ge m' i with z | z
      · exact h3 m' z
      · have : m' = i := by omega
        subst this
        exact hp
    refine ⟨hin, fun q1 => ⟨hin, fun q2 => ?_, fun q2 => ⟨hin, fun q3 => ?_, fun q3 => ?_⟩⟩, fun q1 => ?_⟩
    · intro x ex
      rw [ex]
      exact step (fun z => z.2.1 q2)
    · exact h i (by omega) ⟨q1, q2, q3⟩ h3
    · intro x ex
      rw [ex]
      exact step (fun z => q3 z.2.2)
    · intro x ex
      rw [ex]
      exact step (fun z => q1 z.1)
theorem k_mir {c : CS} {k a : Nat} {Post : Int32 → CS → Prop} (h : ∀ m, m < 12 → PW c k a m → (∀ m', m' < m → ¬ PW c k a m') → Post (nI m) c) (h0 : (∀ m, m < 12 → ¬ PW c k a m) → Post (-9) c) : wp_Hmp_memberInRow c (nI k) (nI a) Post :=
  ⟨13, l_mir h h0 13 0 (by omega) (by omega) (fun m' hm' => by omega)⟩
def pw (c : CS) (k m : Nat) : Bool := decide (c.2.1 9 m = nI k ∧ ¬ c.2.1 10 m ≤ 0)
theorem l_rowLength {c : CS} {k : Nat} {Post : Int32 → CS → Prop} (h : Post (nI (fb_ct (pw c k) 12)) c) : ∀ (n i : Nat), i ≤ 12 → 12 - i < n → wl_Hmp_rowLength_4 Post (fun x u => Post x u) n (nI k) (nI (fb_ct (pw c k) i)) (nI i) c := by
  intro n
  induction n with
  | zero => intro i h1 h2; omega
  | succ n ih =>
    intro i h1 h2
    unfold wl_Hmp_rowLength_4
    rw [i12 h1, nI_clamp (by omega)]
    refine ⟨fun q => by subst q; exact h, fun q => ?_⟩
    have hin : vp_in (nI i) 12 := vp_in_nI (by omega) (by omega)
    have e := fb_ct_succ (pw c k) i
    have go : ∀ x y : Int32, y = nI i + 1 → x = nI (fb_ct (pw c k) (i + 1)) → wl_Hmp_rowLength_4 Post (fun x u => Post x u) n (nI k) x y c := fun x y e1 e2 => by
      rw [e1, e2, nI_1]
      exact ih (i + 1) (by omega) (by omega)
    refine ⟨hin, fun q1 => ⟨hin, fun q2 => ?_, fun q2 => ?_⟩, fun q1 => ?_⟩
    · intro x ex y ey
      refine go x y ey ?_
      have hp : pw c k i = false := by unfold pw; exact decide_eq_false (fun z => z.2 q2)
      rw [ex, e, hp, show (0 : Int32) = nI 0 from rfl, nI_add]
      rfl
    · intro x ex y ey
      refine go x y ey ?_
      have hp : pw c k i = true := by unfold pw; exact decide_eq_true ⟨q1, q2⟩
      rw [ex, e, hp, show (1 : Int32) = nI 1 from rfl, nI_add]
      rfl
    · intro x ex y ey
      refine go x y ey ?_
      have hp : pw c k i = false := by unfold pw; exact decide_eq_false (fun z => q1 z.1)
      rw [ex, e, hp, show (0 : Int32) = nI 0 from rfl, nI_add]
      rfl
theorem k_rowLength {c : CS} {k : Nat} {Post : Int32 → CS → Prop} (h : Post (nI (fb_ct (pw c k) 12)) c) : wp_Hmp_rowLength c (nI k) Post :=
  ⟨13, l_rowLength h 13 0 (by omega) (by omega)⟩
theorem cA_cA (c : CS) (k : Nat) (f g : Nat → Int32) : cA (cA c k f) k g = cA c k g := by
  unfold cA
  congr 2
  funext j
  by_cases e : j = k
  · simp [e]
  · simp [e]
theorem cA_self (c : CS) (k : Nat) : cA c k (c.2.1 k) = c := by
  unfold cA
  have : (fun j => if j = k then c.2.1 k else c.2.1 j) = c.2.1 := by
    funext j
    by_cases e : j = k
    · simp [e]
    · simp [e]
  rw [this]
def dpl (c : CS) (k lf i : Nat) : Nat → Int32 := fun o => if o < i ∧ c.2.1 9 o = nI k ∧ ¬ c.2.1 10 o ≤ nI lf then c.2.1 10 o - 1 else c.2.1 10 o
theorem l_drop {c : CS} {k lf : Nat} {nx : Int32} {Post : Int32 → CS → Prop} {K : Int32 → Int32 → Int32 → CS → Prop} (h : K (nI k) (nI lf) nx (cA c 10 (dpl c k lf 12))) : ∀ (n i : Nat), i ≤ 12 → 12 - i < n → wl_Hmp_drop_42 Post K n (nI k) (nI lf) nx (nI i) (cA c 10 (dpl c k lf i)) := by
  intro n
  induction n with
  | zero => intro i h1 h2; omega
  | succ n ih =>
    intro i h1 h2
    unfold wl_Hmp_drop_42
    rw [i12 h1, nI_clamp (by omega)]
    refine ⟨fun q => by subst q; exact h, fun q => ?_⟩
    have hin : vp_in (nI i) 12 := vp_in_nI (by omega) (by omega)
    have e9 : (cA c 10 (dpl c k lf i)).2.1 9 i = c.2.1 9 i := rfl
    have e10 : (cA c 10 (dpl c k lf i)).2.1 10 i = c.2.1 10 i := by
      show dpl c k lf i i = _
      unfold dpl
      rw [if_neg (by omega)]
    rw [e9, e10]
    have stay : ¬ (c.2.1 9 i = nI k ∧ ¬ c.2.1 10 i ≤ nI lf) → dpl c k lf (i + 1) = dpl c k lf i := fun hz => by
      funext o
      unfold dpl
      by_cases eo : o = i
      · subst eo
        rw [if_neg (fun z => hz z.2), if_neg (by omega)]
      · by_cases z : o < i
        · simp [z, show o < i + 1 by omega]
        · simp [z, show ¬ o < i + 1 by omega]
    refine ⟨hin, fun q1 => ⟨hin, fun q2 => ?_, fun q2 => ⟨hin, hin, ?_⟩⟩, fun q1 => ?_⟩
    · intro x ex
      rw [ex, nI_1, ← stay (fun z => z.2 q2)]
      exact ih (i + 1) (by omega) (by omega)
    · intro u eu x ex
      rw [eu, ex, nI_1, cA_cA]
      have e : upd ((cA c 10 (dpl c k lf i)).2.1 10) i (c.2.1 10 i - 1) = dpl c k lf (i + 1) := by
        funext o
        show upd (dpl c k lf i) i (c.2.1 10 i - 1) o = _
        rw [upd_if]
        unfold dpl
        by_cases eo : o = i
        · subst eo
          rw [if_pos rfl, if_pos ⟨by omega, q1, q2⟩]
        · rw [if_neg eo]
          by_cases z : o < i
          · simp [z, show o < i + 1 by omega]
          · simp [z, show ¬ o < i + 1 by omega]
      rw [e]
      exact ih (i + 1) (by omega) (by omega)
    · intro x ex
      rw [ex, nI_1, ← stay (fun z => q1 z.1)]
      exact ih (i + 1) (by omega) (by omega)
theorem dpl_0 (c : CS) (k lf : Nat) : cA c 10 (dpl c k lf 0) = c := by
  have : dpl c k lf 0 = c.2.1 10 := by
    funext o
    unfold dpl
    rw [if_neg (by omega)]
  rw [this, cA_self]
theorem neg9_ne {k : Nat} (hk : k < 4) : ¬ (-9 : Int32) = nI k := by
  intro h
  have := congrArg Int32.toInt h
  rw [nI_toInt (by omega), show (-9 : Int32).toInt = -9 from rfl] at this
  omega
theorem neg9_ne' {k : Nat} (h : nI k = -9) (hk : k < 12 := by omega) : False := by
  have := congrArg Int32.toInt h
  rw [nI_toInt (by omega), show (-9 : Int32).toInt = -9 from rfl] at this
  omega
def offC (c : CS) (j : Nat) : CS := cA (cA c 9 (upd (c.2.1 9) j (-9))) 10 (upd (c.2.1 10) j 0)
def leftC (c : CS) (j k lf : Nat) : CS := cA (offC c j) 10 (dpl (offC c j) k lf 12)
theorem off9 (c : CS) (j m : Nat) : (offC c j).2.1 9 m = if m = j then -9 else c.2.1 9 m := rfl
theorem off10 (c : CS) (j m : Nat) : (offC c j).2.1 10 m = if m = j then 0 else c.2.1 10 m := rfl
theorem left9 (c : CS) (j k lf m : Nat) : (leftC c j k lf).2.1 9 m = if m = j then -9 else c.2.1 9 m := rfl
theorem left10 (c : CS) (j k lf m : Nat) : (leftC c j k lf).2.1 10 m = dpl (offC c j) k lf 12 m := rfl
theorem left10_j {c : CS} {j k lf : Nat} (hk : k < 4) : (leftC c j k lf).2.1 10 j = 0 := by
  rw [left10]
  unfold dpl
  rw [off9, if_pos rfl, if_neg (fun z => neg9_ne hk z.2.1), off10, if_pos rfl]
theorem left10_o {c : CS} {j k lf m : Nat} (hm : m ≠ j) (h : ¬ c.2.1 9 m = nI k ∨ c.2.1 10 m ≤ nI lf) : (leftC c j k lf).2.1 10 m = c.2.1 10 m := by
  rw [left10]
  unfold dpl
  rw [off9, if_neg hm, off10, if_neg hm]
  rw [if_neg (fun z => h.elim (fun q => q z.2.1) (fun q => z.2.2 q))]
theorem nle_s {i lf : Nat} (hi : i < 2 ^ 30) (hl : lf < 2 ^ 30) : (nI i ≤ nI lf) ↔ i ≤ lf := nI_leI (by omega) (by omega)
theorem left10_s {c : CS} {j k lf m : Nat} (hm : m ≠ j) (h12 : m < 12) (h : c.2.1 9 m = nI k) (h2 : ¬ c.2.1 10 m ≤ nI lf) : (leftC c j k lf).2.1 10 m = c.2.1 10 m - 1 := by
  rw [left10]
  unfold dpl
  rw [off9, if_neg hm, off10, if_neg hm, if_pos ⟨h12, h, h2⟩]
theorem nI_m1 (i : Nat) : nI (i + 1) - 1 = nI i := nI_pred i
theorem ne0 {i : Nat} (hi : i < 100) : ¬ nI (i + 1) = 0 := nI_ne0 (by omega) (by omega)
theorem sub1 {x y : Int32} (h : x - 1 = y) : x = y + 1 := by
  rw [← h]
  exact (Int32.sub_add_cancel x 1).symm
theorem k_drop {c : CS} {j k lf : Nat} {nx : Int32} {Post : Int32 → CS → Prop} (hj : j < 12) (hk : k < 4) (hl : c.2.1 10 j = nI lf) (hlf : lf ≤ 12) (hnx : (lf = 0 → ∀ P : Int32 → CS → Prop, P nx c → wp_Hmp_memberInRow c (nI k) 0 P) ∧ (¬ lf = 0 → nx = -9)) (h : Post nx (if lf = 0 ∧ nx = -9 then cA (leftC c j k lf) 8 (upd (c.2.1 8) k (c.2.1 8 k + 1)) else leftC c j k lf)) : wp_Hmp_drop c (nI j) (nI k) Post := by
  have hin : vp_in (nI j) 12 := vp_in_nI hj (by omega)
  have hik : vp_in (nI k) 4 := vp_in_nI hk (by omega)
  unfold wp_Hmp_drop
  simp only [nI_clamp (show j < 2 ^ 31 by omega), forall_eq, hl]
  refine ⟨hin, fun q => ?_, fun q => ?_⟩
  · have hl0 : lf = 0 := by
      rcases Nat.eq_zero_or_pos lf with z | z
      · exact z
      · exact absurd q (nI_ne0 z (by omega))
    refine hnx.1 hl0 _ ?_
    refine ⟨hin, hin, 13, ?_⟩
    have e0 := dpl_0 (offC c j) k lf
    show wl_Hmp_drop_42 Post _ 13 (nI k) (nI lf) nx 0 (offC c j)
    rw [← e0]
    refine l_drop ?_ 13 0 (by omega) (by omega)
    refine ⟨fun _ => ⟨fun q2 => ?_, fun q2 => ?_⟩, fun q2 => absurd q q2⟩
    · rw [if_pos ⟨hl0, q2⟩] at h
      rw [nI_clamp (show k < 2 ^ 31 by omega)]
      exact ⟨hik, hik, h⟩
    · rw [if_neg (fun z => q2 z.2)] at h
      exact h
  · have hl0 : ¬ lf = 0 := fun z => q (by rw [z]; rfl)
    have enx := hnx.2 hl0
    rw [if_neg (fun z => hl0 z.1)] at h
    refine ⟨hin, hin, 13, ?_⟩
    have e0 := dpl_0 (offC c j) k lf
    show wl_Hmp_drop_42 Post _ 13 (nI k) (nI lf) (-9) 0 (offC c j)
    rw [← e0]
    refine l_drop ?_ 13 0 (by omega) (by omega)
    rw [enx] at h
    exact ⟨fun q2 => absurd q2 q, fun _ => h⟩
theorem le0_pos {i : Nat} (hi : i < 100) : ¬ nI (i + 1) ≤ 0 := fun z => absurd ((nle_s (lf := 0) (by omega) (by omega)).mp z) (by omega)
def isK (k : Int32) : Prop := 0 ≤ k.toInt ∧ k.toInt ≤ 3
theorem isK_of {k : Int32} (h : isK k) : ∃ j, j < 4 ∧ k = nI j := vp_in_of (vp_in_iff.mpr ⟨h.1, by have := h.2; omega⟩) (by omega)
theorem hamK {k : Int32} : pf_Ham_isKind k = 0 ↔ ¬ isK k := by
  unfold pf_Ham_isKind isK
  simp only [Int32.le_iff_toInt_le, Int32.lt_iff_toInt_lt, show (0 : Int32).toInt = 0 from rfl, show (4 : Int32).toInt = 4 from rfl]
  by_cases h1 : 0 ≤ k.toInt
  · by_cases h2 : k.toInt < 4
    · rw [if_pos h1, if_pos h2]
      exact ⟨fun q => absurd q (by decide), fun q => absurd ⟨h1, by omega⟩ q⟩
    · rw [if_pos h1, if_neg h2]
      exact ⟨fun _ q => h2 (by omega), fun _ => rfl⟩
  · rw [if_neg h1]
    exact ⟨fun _ q => h1 q.1, fun _ => rfl⟩
theorem isK_nI {k : Nat} (hk : k < 4) : isK (nI k) := by
  unfold isK
  rw [nI_toInt (by omega)]
  omega
theorem hamK1 {k : Nat} (hk : k < 4) : ¬ pf_Ham_isKind (nI k) = 0 := fun q => hamK.mp q (isK_nI hk)
theorem hamK9 : pf_Ham_isKind (-9) = 0 := by decide
