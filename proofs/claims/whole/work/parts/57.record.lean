/-! The reference's copies and its record of states. -/
def cpF (g : Nat → Int32) (a b n : Nat) : Nat → Int32 := fun o => if b ≤ o ∧ o < b + n then g (a + (o - b)) else g o
theorem t_copy {u : RS} {a b n : Nat} {Post : RS → Prop} (hd : a + n ≤ b ∨ b + n ≤ a) (ha : a + n ≤ 4306) (hb : b + n ≤ 4306) (h : Post (rR u (cpF u.1 a b n))) : wp_Mod_copy u (nI a) (nI b) (nI n) Post := by
  have go : ∀ m i, i ≤ n → n - i < m → wl_Mod_copy_3 Post (fun v => Post v) m (nI a) (nI b) (nI n) (nI i) (rR u (cpF u.1 a b i)) := by
    intro m
    induction m with
    | zero => intro i h1 h2; omega
    | succ m ih =>
      intro i h1 h2
      unfold wl_Mod_copy_3
      refine ⟨fun q => ?_, fun q => ?_⟩
      · have : i = n := by
          rcases Nat.lt_or_ge i n with z | z
          · exact absurd q (nI_ge z (by omega))
          · omega
        subst this
        exact h
      · have hi : i < n := Nat.lt_of_not_le (fun z => q (nI_le z (by omega)))
        rw [nI_add, nI_add, nI_clamp (show a + i < 2 ^ 31 by omega), nI_clamp (show b + i < 2 ^ 31 by omega)]
        refine ⟨vp_in_nI (by omega) (by omega), vp_in_nI (by omega) (by omega), ?_⟩
        intro v ev x ex
        rw [ev, ex, nI_1]
        have e : upd (rR u (cpF u.1 a b i)).1 (b + i) ((rR u (cpF u.1 a b i)).1 (a + i)) = cpF u.1 a b (i + 1) := by
          funext o
          show upd (cpF u.1 a b i) (b + i) (cpF u.1 a b i (a + i)) o = _
          rw [upd_if]
          unfold cpF
          by_cases z : o = b + i
          · rw [if_pos z, if_neg (by omega), if_pos (by omega), show o - b = i by omega]
          · rw [if_neg z]
            by_cases y : b ≤ o ∧ o < b + i
            · rw [if_pos y, if_pos (by omega)]
            · rw [if_neg y, if_neg (by omega)]
        rw [e]
        exact ih (i + 1) (by omega) (by omega)
  have := go (n + 1) 0 (by omega) (by omega)
  have e : cpF u.1 a b 0 = u.1 := by
    funext o
    unfold cpF
    rw [if_neg (by omega)]
  rw [e] at this
  exact ⟨n + 1, this⟩
/-- what a record leaves -/
def RecOf (g g' : Nat → Int32) (n : Nat) : Prop := (∀ i, i < 680 → g' i = g i) ∧ (n < 5 → (∀ j i, j < n → i < 680 → g' (680 * (1 + j) + i) = g (680 * (1 + j) + i)) ∧ ∀ i, i < 680 → g' (680 * (1 + n) + i) = g i) ∧ (n = 5 → (∀ j i, j < 4 → i < 680 → g' (680 * (1 + j) + i) = g (680 * (1 + (j + 1)) + i)) ∧ ∀ i, i < 680 → g' (680 * (1 + 4) + i) = g i)
theorem lit680 (n : Nat) : (680 : Int32) + 680 * nI n = nI (680 + 680 * n) := by
  rw [show (680 : Int32) = nI 680 from rfl, pk_mul, nI_add]
theorem lit680' (n : Nat) : (680 : Int32) * nI n = nI (680 * n) := by
  rw [show (680 : Int32) = nI 680 from rfl, pk_mul]
theorem l_rec {u : RS} {Post K : RS → Prop} (h : ∀ g' : Nat → Int32, (∀ i, i < 680 → g' i = u.1 i) → (∀ j i, j < 4 → i < 680 → g' (680 * (1 + j) + i) = u.1 (680 * (1 + (j + 1)) + i)) → K (rR u g')) : ∀ m a (g : Nat → Int32), 1 ≤ a → a ≤ 5 → 5 - a < m → (∀ i, i < 680 → g i = u.1 i) → (∀ j i, j < a - 1 → i < 680 → g (680 * (1 + j) + i) = u.1 (680 * (1 + (j + 1)) + i)) → (∀ j i, a - 1 ≤ j → j < 5 → i < 680 → g (680 * (1 + j) + i) = u.1 (680 * (1 + j) + i)) → wl_Mod_record_10 Post K m (nI a) (rR u g) := by
  intro m
  induction m with
  | zero => intro a g h1 h2 h3; omega
  | succ m ih =>
    intro a g h1 h2 h3 g1 g2 g3
    unfold wl_Mod_record_10
    by_cases ha : a = 5
    · subst ha
      exact ⟨fun _ => h g g1 (fun j i hj hi => g2 j i hj hi), fun z => absurd (Int32.le_refl _) z⟩
    · refine ⟨fun z => absurd z (nI_ge (a := a) (b := 5) (by omega) (by omega)), fun _ => ?_⟩
      rw [lit680, lit680']
      refine t_copy (n := 680) (by omega) (by omega) (by omega) ?_
      intro x ex
      rw [ex, nI_1]
      refine ih (a + 1) (cpF g (680 + 680 * a) (680 * a) 680) (by omega) (by omega) (by omega) (fun i hi => ?_) (fun j i hj hi => ?_) (fun j i hj1 hj2 hi => ?_)
      · unfold cpF
        rw [if_neg (by omega)]
        exact g1 i hi
      · unfold cpF
        by_cases e : j = a - 1
        · subst e
          rw [if_pos (by omega), ← g3 (a - 1 + 1) i (by omega) (by omega) hi]
          congr 1
          omega
        · rw [if_neg (by omega)]
          exact g2 j i (by omega) hi
      · unfold cpF
        rw [if_neg (by omega)]
        exact g3 j i (by omega) hj2 hi
theorem t_record {u : RS} {n : Nat} {Post : RS → Prop} (hn : n ≤ 5) (h0 : u.2.2.2 0 = nI n) (h : ∀ g' : Nat → Int32, RecOf u.1 g' n → Post (rS (rR u g') 0 (nI (if n < 5 then n + 1 else 5)))) : wp_Mod_record u Post := by
  unfold wp_Mod_record
  rw [h0]
  refine ⟨fun q => ?_, fun q => ?_⟩
  · have e5 : n = 5 := (nI_eq (b := 5) (by omega) (by omega)).mp q
    subst e5
    refine ⟨5, l_rec (u := u) (fun g' g1 g2 => ?_) 5 1 u.1 (by omega) (by omega) (by omega) (fun _ _ => rfl) (fun j i hj => by omega) (fun _ _ _ _ _ => rfl)⟩
    intro v ev
    rw [ev]
    have e4 : (rS (rR u g') 0 ((rR u g').2.2.2 0 - 1)).2.2.2 0 = nI 4 := by
      show (if 0 = 0 then u.2.2.2 0 - 1 else u.2.2.2 0) = _
      rw [if_pos rfl, h0]
      decide
    rw [e4, lit680, show (0 : Int32) = nI 0 from rfl]
    refine t_copy (n := 680) (by omega) (by omega) (by omega) ?_
    intro w2 ew
    rw [ew]
    have e5' : (rS (rR (rS (rR u g') 0 ((rR u g').2.2.2 0 - 1)) (cpF g' 0 (680 + 680 * 4) 680)) 0 (nI 4 + 1)) = rS (rR u (cpF g' 0 (680 + 680 * 4) 680)) 0 (nI 5) := by
      show (_, _, _, upd (upd u.2.2.2 0 _) 0 (nI 4 + 1)) = (_, _, _, upd u.2.2.2 0 (nI 5))
      have : upd (upd u.2.2.2 0 (u.2.2.2 0 - 1)) 0 (nI 4 + 1) = upd u.2.2.2 0 (nI 5) := by
        funext o
        rw [upd_if, upd_if, upd_if]
        by_cases z : o = 0
        · rw [if_pos z, if_pos z, nI_1]
        · rw [if_neg z, if_neg z, if_neg z]
      rw [← this]
      rfl
    have hp := h (cpF g' 0 (680 + 680 * 4) 680) ⟨fun i hi => by unfold cpF; rw [if_neg (by omega)]; exact g1 i hi, fun z => by omega, fun _ => ⟨fun j i hj hi => by unfold cpF; rw [if_neg (by omega)]; exact g2 j i hj hi, fun i hi => by unfold cpF; rw [if_pos (by omega), show 0 + (680 * (1 + 4) + i - (680 + 680 * 4)) = i by omega]; exact g1 i hi⟩⟩
    rw [if_neg (by omega)] at hp
    have e6 : (rR (rS (rR u g') 0 ((rR u g').2.2.2 0 - 1)) (cpF g' 0 (680 + 680 * 4) 680)).2.2.2 0 = nI 4 := e4
    have e7 : (rS (rR u g') 0 ((rR u g').2.2.2 0 - 1)).1 = g' := rfl
    rw [e7, e6, e5']
    exact hp
  · have hn5 : n < 5 := by
      rcases Nat.lt_or_ge n 5 with z | z
      · exact z
      · have : n = 5 := by omega
        subst this
        exact absurd rfl q
    rw [lit680, show (0 : Int32) = nI 0 from rfl]
    refine t_copy (n := 680) (by omega) (by omega) (by omega) ?_
    intro v ev
    rw [ev]
    have hp := h (cpF u.1 0 (680 + 680 * n) 680) ⟨fun i hi => by unfold cpF; rw [if_neg (by omega)], fun _ => ⟨fun j i hj hi => by unfold cpF; rw [if_neg (by omega)], fun i hi => by unfold cpF; rw [if_pos (by omega), show 0 + (680 * (1 + n) + i - (680 + 680 * n)) = i by omega]⟩, fun z => by omega⟩
    rw [if_pos hn5] at hp
    have e0 : (rR u (cpF u.1 0 (680 + 680 * n) 680)).2.2.2 0 + 1 = nI (n + 1) := by
      show u.2.2.2 0 + 1 = _
      rw [h0, nI_1]
    rw [e0]
    exact hp
