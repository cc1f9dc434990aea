/-! The reference's copies and its record of states. -/
def cpF (g : Nat → Int32) (a b n : Nat) : Nat → Int32 := fun o => if b ≤ o ∧ o < b + n then g (a + (o - b)) else g o
theorem t_copy {u : RS} {a b n : Nat} {Post : RS → Prop} (hd : a + n ≤ b ∨ b + n ≤ a) (ha : a + n ≤ 4306) (hb : b + n ≤ 4306) (h : Post (rR u (cpF u.1 a b n))) : wp_Mod_copy u (nI a) (nI b) (nI n) Post := by
  have go : ∀ m i, i ≤ n → n - i < m → wl_Mod_copy_3 Post (fun v => Post v) m (nI a) (nI b) (nI n) (nI i) (rR u (cpF u.1 a b i)) := by
    intro m
    induction m with
    | zero => intro i h1 h2; omega
    | succ m ih =>
      intro i h1 h2
      unfold wl_Mod_copy_3
      refine ⟨fun q => ?_, fun q => ?_⟩
      · have : i = n := by
          rcases Nat.lt_or_ge i n with z | z
          · exact absurd q (nI_ge z (by omega))
          · omega
        subst this
        exact h
      · have hi : i < n := Nat.lt_of_not_le (fun z => q (nI_le z (by omega)))
        rw [nI_add, nI_add, nI_clamp (show a + i < 2 ^ 31 by omega), nI_clamp (show b + i < 2 ^ 31 by omega)]
        refine ⟨vp_in_nI (by omega) (by omega), vp_in_nI (by omega) (by omega), ?_⟩
        intro v ev x ex
        rw [ev, ex, nI_1]
        have e : upd (rR u (cpF u.1 a b i)).1 (b + i) ((rR u (cpF u.1 a b i)).1 (a + i)) = cpF u.1 a b (i + 1) := by
          funext o
          show upd (cpF u.1 a b i) (b + i) (cpF u.1 a b i (a + i)) o = _
          rw [upd_if]
          unfold cpF
          by_cases z : o = b + i
          · rw [if_pos z, if_neg (by omega), if_pos (by omega), show o - b = i by omega]
          · rw [if_neg z]
            by_cases y : b ≤ o ∧ o < b + i
            · rw [if_pos y, if_pos (by omega)]
            · rw [if_neg y, if_neg (by omega)]
        rw [e]
        exact ih (i + 1) (by omega) (by omega)
  have := go (n + 1) 0 (by omega) (by omega)
  have e : cpF u.1 a b 0 = u.1 := by
    funext o
    unfold cpF
    rw [if_neg (by omega)]
  rw [e] at this
  exact ⟨n + 1, this⟩
/-- what a record leaves -/
def RecOf (g g' : Nat → Int32) (n : Nat) : Prop := (∀ i, i < 680 → g' i = g i) ∧ (n < 5 → (∀ j i, j < n → i < 680 → g' (680 * (1 + j) + i) = g (680 * (1 + j) + i)) ∧ ∀ i, i < 680 → g' (680 * (1 + n) + i) = g i) ∧ (n = 5 → (∀ j i, j < 4 → i < 680 → g' (680 * (1 + j) + i) = g (680 * (1 + (j + 1)) + i)) ∧ ∀ i, i < 680 → g' (680 * (1 + 4) + i) = g i)
theorem lit680 (n : Nat) : (680 : Int32) + 680 * nI n = nI (680 + 680 * n) := by
  rw [show (680 : Int32) = nI 680 from rfl, pk_mul, nI_add]
theorem lit680' (n : Nat) : (680 : Int32) * nI n = nI (680 * n) := by
  rw [show (680 : Int32) = nI 680 from rfl, pk_mul]
def shF (g : Nat → Int32) (a : Nat) : Nat → Int32 := fun o => if 680 ≤ o ∧ o < 680 * a then g (o + 680) else g o
theorem shF_s (g : Nat → Int32) (a : Nat) (ha : 1 ≤ a) : cpF (shF g a) (680 + 680 * a) (680 * a) 680 = shF g (a + 1) := by
  funext o
  unfold cpF shF
  by_cases z : 680 * a ≤ o ∧ o < 680 * a + 680
  · rw [if_pos z, if_neg (by omega), if_pos (by omega), show 680 + 680 * a + (o - 680 * a) = o + 680 by omega]
  · rw [if_neg z]
    by_cases y : 680 ≤ o ∧ o < 680 * a
    · rw [if_pos y, if_pos (by omega)]
    · rw [if_neg y, if_neg (by omega)]
theorem l_rec {u : RS} {Post K : RS → Prop} (h : K (rR u (shF u.1 5))) : ∀ m a, 1 ≤ a → a ≤ 5 → 5 - a < m → wl_Mod_record_10 Post K m (nI a) (rR u (shF u.1 a)) := by
  intro m
  induction m with
  | zero => intro a h1 h2 h3; omega
  | succ m ih =>
    intro a h1 h2 h3
    unfold wl_Mod_record_10
    by_cases ha : a = 5
    · subst ha
      exact ⟨fun _ => h, fun z => absurd (Int32.le_refl _) z⟩
    · refine ⟨fun z => absurd z (nI_ge (a := a) (b := 5) (by omega) (by omega)), fun _ => ?_⟩
      rw [lit680, lit680']
      refine t_copy (n := 680) (by omega) (by omega) (by omega) ?_
      intro x ex
      have e : cpF (rR u (shF u.1 a)).1 (680 + 680 * a) (680 * a) 680 = shF u.1 (a + 1) := shF_s u.1 a h1
      rw [ex, nI_1, e]
      exact ih (a + 1) (by omega) (by omega) (by omega)
theorem shF_1 (g : Nat → Int32) : shF g 1 = g := by
  funext o
  unfold shF
  rw [if_neg (by omega)]
def recF (g : Nat → Int32) (n : Nat) : Nat → Int32 := if n < 5 then cpF g 0 (680 + 680 * n) 680 else cpF (shF g 5) 0 (680 + 680 * 4) 680
theorem recF_of (g : Nat → Int32) (n : Nat) : RecOf g (recF g n) n := by
  by_cases hn : n < 5
  · have e : recF g n = cpF g 0 (680 + 680 * n) 680 := if_pos hn
    rw [e]
    exact ⟨fun i hi => by unfold cpF; rw [if_neg (by omega)], fun _ => ⟨fun j i hj hi => by unfold cpF; rw [if_neg (by omega)], fun i hi => by unfold cpF; rw [if_pos (by omega), show 0 + (680 * (1 + n) + i - (680 + 680 * n)) = i by omega]⟩, fun z => by omega⟩
  · have e : recF g n = cpF (shF g 5) 0 (680 + 680 * 4) 680 := if_neg hn
    rw [e]
    refine ⟨fun i hi => by unfold cpF shF; rw [if_neg (by omega), if_neg (by omega)], fun z => by omega, fun _ => ⟨fun j i hj hi => ?_, fun i hi => ?_⟩⟩
    · unfold cpF shF
      rw [if_neg (by omega), if_pos (by omega), show 680 * (1 + j) + i + 680 = 680 * (1 + (j + 1)) + i by omega]
    · unfold cpF shF
      rw [if_pos (by omega), if_neg (by omega), show 0 + (680 * (1 + 4) + i - (680 + 680 * 4)) = i by omega]
theorem t_record {u : RS} {n : Nat} {Post : RS → Prop} (hn : n ≤ 5) (h0 : u.2.2.2 0 = nI n) (h : Post (rS (rR u (recF u.1 n)) 0 (nI (if n < 5 then n + 1 else 5)))) : wp_Mod_record u Post := by
  unfold wp_Mod_record
  rw [h0]
  refine ⟨fun q => ?_, fun q => ?_⟩
  · have e5 : n = 5 := (nI_eq (b := 5) (by omega) (by omega)).mp q
    subst e5
    have lr := l_rec (u := u) (Post := Post) (K := fun u6 => (∀ u7 : RS, u7 = (rS u6 0 ((u6.2.2.2 0) - 1)) → (wp_Mod_copy u7 0 (680 + (680 * (u7.2.2.2 0))) 680 (fun u8 => (∀ u9 : RS, u9 = (rS u8 0 ((u8.2.2.2 0) + 1)) → Post u9))))) ?_ 5 1 (by omega) (by omega) (by omega)
    · rw [shF_1] at lr
      exact ⟨5, lr⟩
    intro v ev
    rw [ev]
    have e4 : (rS (rR u (shF u.1 5)) 0 ((rR u (shF u.1 5)).2.2.2 0 - 1)).2.2.2 0 = nI 4 := by
      show (if 0 = 0 then u.2.2.2 0 - 1 else u.2.2.2 0) = _
      rw [if_pos rfl, h0]
      decide
    rw [e4, lit680, show (0 : Int32) = nI 0 from rfl]
    refine t_copy (n := 680) (by omega) (by omega) (by omega) ?_
    intro w2 ew
    rw [ew]
    have e5' : (rS (rR (rS (rR u (shF u.1 5)) 0 ((rR u (shF u.1 5)).2.2.2 0 - 1)) (cpF (shF u.1 5) 0 (680 + 680 * 4) 680)) 0 (nI 4 + 1)) = rS (rR u (cpF (shF u.1 5) 0 (680 + 680 * 4) 680)) 0 (nI 5) := by
      have : upd (upd u.2.2.2 0 (u.2.2.2 0 - 1)) 0 (nI 4 + 1) = upd u.2.2.2 0 (nI 5) := by
        funext o
        rw [upd_if, upd_if, upd_if]
        by_cases z : o = 0
        · rw [if_pos z, if_pos z, nI_1]
        · rw [if_neg z, if_neg z, if_neg z]
      show (_, _, _, upd (upd u.2.2.2 0 _) 0 (nI 4 + 1)) = (_, _, _, upd u.2.2.2 0 (nI 5))
      rw [← this]
      rfl
    have e6 : (rR (rS (rR u (shF u.1 5)) 0 ((rR u (shF u.1 5)).2.2.2 0 - 1)) (cpF (shF u.1 5) 0 (680 + 680 * 4) 680)).2.2.2 0 = nI 4 := e4
    have e7 : (rS (rR u (shF u.1 5)) 0 ((rR u (shF u.1 5)).2.2.2 0 - 1)).1 = shF u.1 5 := rfl
    rw [e7, e6, e5']
    exact h
  · have hn5 : n < 5 := by
      rcases Nat.lt_or_ge n 5 with z | z
      · exact z
      · have : n = 5 := by omega
        subst this
        exact absurd rfl q
    rw [lit680, show (0 : Int32) = nI 0 from rfl]
    refine t_copy (n := 680) (by omega) (by omega) (by omega) ?_
    intro v ev
    rw [ev]
    have e : recF u.1 n = cpF u.1 0 (680 + 680 * n) 680 := if_pos hn5
    rw [if_pos hn5, e] at h
    have e0 : (rR u (cpF u.1 0 (680 + 680 * n) 680)).2.2.2 0 + 1 = nI (n + 1) := by
      show u.2.2.2 0 + 1 = _
      rw [h0, nI_1]
    rw [e0]
    exact h
