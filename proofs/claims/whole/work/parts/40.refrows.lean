/-! Rows in the reference: a member's place, leaving, giving up. -/
theorem i3 (i : Nat) : (3 : Int32) + nI i = nI (3 + i) := by rw [show (3 : Int32) = nI 3 from rfl, nI_add]
theorem ok_clW {k w : Nat} (hk : k < 4) (hw : w < 1000) : (pf_Mod_ofKind (nI k) (nI w)).toNatClampNeg = 10 + 15 * k + w := by rw [ok_eq, nI_clamp (by omega)]
theorem l_placeOf {u : RS} {k j n p : Nat} {Post : Int32 → RS → Prop} (hk : k < 4) (hn : n ≤ 12) (h2 : kd u.1 k 2 = nI n) (hp : p < n) (hq : kd u.1 k (3 + p) = nI j) (ho : ∀ i, i < p → ¬ kd u.1 k (3 + i) = nI j) (h : Post (nI p) u) : ∀ (m i : Nat), i ≤ p → p - i < m → wl_Mod_placeOf_2 Post (fun u => Post (-9) u) m (nI j) (nI k) (nI i) u := by
  intro m
  induction m with
  | zero => intro i h1 h2; omega
  | succ m ih =>
    intro i h1 h3
    unfold wl_Mod_placeOf_2
    rw [okc2 hk, i3, ok_cl hk (show 3 + i < 15 by omega)]
    have e2 : u.1 (10 + 15 * k + 2) = nI n := h2
    rw [e2]
    refine ⟨oki2 hk, fun q => absurd q (nI_ge (by omega) (by omega)), fun _ => ⟨ok_in hk (by omega), fun q => ?_, fun q => ?_⟩⟩
    · rcases Nat.lt_or_ge i p with z | z
      · exact absurd q (ho i z)
      · have : i = p := by omega
        subst this
        exact h
    · intro x ex
      rw [ex, nI_1]
      rcases Nat.lt_or_ge i p with z | z
      · exact ih (i + 1) (by omega) (by omega)
      · have : i = p := by omega
        subst this
        exact absurd hq q
theorem t_placeOf {u : RS} {k j n p : Nat} {Post : Int32 → RS → Prop} (hk : k < 4) (hn : n ≤ 12) (h2 : kd u.1 k 2 = nI n) (hp : p < n) (hq : kd u.1 k (3 + p) = nI j) (ho : ∀ i, i < p → ¬ kd u.1 k (3 + i) = nI j) (h : Post (nI p) u) : wp_Mod_placeOf u (nI j) (nI k) Post :=
  ⟨p + 1, l_placeOf hk hn h2 hp hq ho h (p + 1) 0 (by omega) (by omega)⟩
/-- the row without its place p, of n places -/
def leaveF (g : Nat → Int32) (k p n i0 : Nat) : Nat → Int32 := fun i => if i = 10 + 15 * k + 2 then nI (n - 1) else if 13 + 15 * k + p ≤ i ∧ i < 13 + 15 * k + i0 then g (i + 1) else g i
theorem l_leaveRow {u : RS} {k n p : Nat} {Post : RS → Prop} (hk : k < 4) (hn : n ≤ 12) (hp : p < n) (h : Post (rR u (leaveF u.1 k p n (n - 1)))) : ∀ (m i : Nat), p ≤ i → i ≤ n - 1 → n - 1 - i < m → wl_Mod_leaveRow_16 Post (fun u => Post u) m (nI k) (nI i) (rR u (leaveF u.1 k p n i)) := by
  intro m
  induction m with
  | zero => intro i h1 h2 h3; omega
  | succ m ih =>
    intro i h1 h2 h3
    unfold wl_Mod_leaveRow_16
    rw [okc2 hk, i3, nI_1, ok_cl hk (show 3 + i < 15 by omega), ok_clW hk (show 3 + i + 1 < 1000 by omega)]
    have e2 : (rR u (leaveF u.1 k p n i)).1 (10 + 15 * k + 2) = nI (n - 1) := by
      show leaveF u.1 k p n i (10 + 15 * k + 2) = _
      unfold leaveF
      rw [if_pos rfl]
    rw [e2]
    refine ⟨oki2 hk, fun q => ?_, fun q => ?_⟩
    · have : i = n - 1 := by
        rcases Nat.lt_or_ge i (n - 1) with z | z
        · exact absurd q (nI_ge z (by omega))
        · omega
      rw [this]
      exact h
    · have hi : i < n - 1 := Nat.lt_of_not_le (fun z => q (nI_le z (by omega)))
      refine ⟨ok_in hk (by omega), ok_in hk (by omega), ?_⟩
      intro v ev x ex
      rw [ev, ex, nI_1]
      have e : upd (rR u (leaveF u.1 k p n i)).1 (10 + 15 * k + (3 + i)) ((rR u (leaveF u.1 k p n i)).1 (10 + 15 * k + (3 + i + 1))) = leaveF u.1 k p n (i + 1) := by
        funext o
        show upd (leaveF u.1 k p n i) (10 + 15 * k + (3 + i)) (leaveF u.1 k p n i (10 + 15 * k + (3 + i + 1))) o = _
        rw [upd_if]
        unfold leaveF
        by_cases eo : o = 10 + 15 * k + (3 + i)
        · rw [if_pos eo, if_neg (by omega), if_neg (by omega), if_neg (by omega), if_pos (by omega), eo]
          congr 1
        · rw [if_neg eo]
          by_cases e1 : o = 10 + 15 * k + 2
          · rw [if_pos e1, if_pos e1]
          · rw [if_neg e1, if_neg e1]
            by_cases e3 : 13 + 15 * k + p ≤ o ∧ o < 13 + 15 * k + i
            · rw [if_pos e3, if_pos (by omega)]
            · rw [if_neg e3, if_neg (by omega)]
      rw [e]
      exact ih (i + 1) (by omega) (by omega) (by omega)
theorem t_leaveRow {u : RS} {k n p : Nat} {Post : RS → Prop} (hk : k < 4) (hn : n ≤ 12) (h2 : kd u.1 k 2 = nI n) (hp : p < n) (h : Post (rR u (leaveF u.1 k p n (n - 1)))) : wp_Mod_leaveRow u (nI k) (nI p) Post := by
  unfold wp_Mod_leaveRow
  simp only [okc2 hk, forall_eq]
  refine ⟨oki2 hk, oki2 hk, n, ?_⟩
  have e2 : u.1 (10 + 15 * k + 2) = nI n := h2
  have e : upd u.1 (10 + 15 * k + 2) (u.1 (10 + 15 * k + 2) - 1) = leaveF u.1 k p n p := by
    funext o
    rw [upd_if, e2, show (1 : Int32) = nI 1 from rfl, pk_sub (by omega)]
    unfold leaveF
    by_cases e1 : o = 10 + 15 * k + 2
    · rw [if_pos e1, if_pos e1]
    · rw [if_neg e1, if_neg e1, if_neg (by omega)]
  rw [e]
  exact l_leaveRow hk hn hp h n p (by omega) (by omega) (by omega)
theorem kd_leaveF {g : Nat → Int32} {k p n k' v : Nat} (hk : k < 4) (hv : v < 15) (hk' : k' < 4) (hn : n ≤ 12) : kd (leaveF g k p n (n - 1)) k' v = if k' = k then (if v = 2 then nI (n - 1) else if 3 + p ≤ v ∧ v < 3 + (n - 1) then kd g k (v + 1) else kd g k v) else kd g k' v := by
  unfold kd leaveF
  by_cases e : k' = k
  · subst e
    rw [if_pos rfl]
    by_cases e1 : v = 2
    · rw [if_pos e1, if_pos (by omega)]
    · rw [if_neg e1, if_neg (by omega)]
      by_cases e3 : 3 + p ≤ v ∧ v < 3 + (n - 1)
      · rw [if_pos e3, if_pos (by omega)]
        congr 1
      · rw [if_neg e3, if_neg (by omega)]
  · rw [if_neg e, if_neg (by omega), if_neg (by omega)]
theorem mb_leaveF {g : Nat → Int32} {k p n m v : Nat} (hk : k < 4) (hn : n ≤ 12) : mb (leaveF g k p n (n - 1)) m v = mb g m v := by
  unfold mb leaveF
  rw [if_neg (by omega), if_neg (by omega)]
theorem gl_leaveF {g : Nat → Int32} {k p n i : Nat} (hi : i < 10) : leaveF g k p n (n - 1) i = g i := by
  unfold leaveF
  rw [if_neg (by omega), if_neg (by omega)]
theorem out_leaveF {g : Nat → Int32} {k p n i : Nat} (hk : k < 4) (hn : n ≤ 12) (hi : 226 ≤ i) : leaveF g k p n (n - 1) i = g i := by
  unfold leaveF
  rw [if_neg (by omega), if_neg (by omega)]
/-- a member without a choice -/
def offF (g : Nat → Int32) (j : Nat) : Nat → Int32 := setM (setM g j 3 (-9)) j 4 0
theorem t_drop_w {u : RS} {j k n p : Nat} {Post : Int32 → RS → Prop} (hj : j < 12) (hk : k < 4) (hn : n ≤ 12) (h3 : mb u.1 j 3 = nI k) (h4 : ¬ mb u.1 j 4 = 1) (h2 : kd u.1 k 2 = nI n) (hp : p < n) (hq : kd u.1 k (3 + p) = nI j) (ho : ∀ i, i < p → ¬ kd u.1 k (3 + i) = nI j) (h : Post (-9) (rR u (leaveF (offF u.1 j) k p n (n - 1)))) : wp_Mod_drop u (nI j) Post := by
  unfold wp_Mod_drop
  simp only [ofc3 hj, ofc4 hj, forall_eq]
  have e3 : u.1 (70 + 13 * j + 3) = nI k := h3
  rw [e3]
  refine ⟨ofi3 hj, ofi4 hj, fun q => absurd q h4, fun _ => ⟨ofi3 hj, ofi4 hj, ?_⟩⟩
  have eo : ∀ v, v < 15 → kd (offF u.1 j) k v = kd u.1 k v := fun v hv => by unfold offF; rw [kd_setM hk hv, kd_setM hk hv]
  refine t_placeOf (n := n) (p := p) hk hn ((eo 2 (by omega)).trans h2) hp ((eo _ (by omega)).trans hq) (fun i hi z => ho i hi ((eo _ (by omega)).symm.trans z)) ?_
  exact t_leaveRow (n := n) (p := p) hk hn ((eo 2 (by omega)).trans h2) hp h
theorem t_drop_0 {u : RS} {j k : Nat} {Post : Int32 → RS → Prop} (hj : j < 12) (hk : k < 4) (h3 : mb u.1 j 3 = nI k) (h4 : mb u.1 j 4 = 1) (h2 : kd u.1 k 2 = nI 0) (h : Post (-9) (rR u (setK (offF u.1 j) k 1 (kd u.1 k 1 + 1)))) : wp_Mod_drop u (nI j) Post := by
  unfold wp_Mod_drop
  simp only [ofc3 hj, ofc4 hj, forall_eq]
  have e3 : u.1 (70 + 13 * j + 3) = nI k := h3
  rw [e3]
  refine ⟨ofi3 hj, ofi4 hj, fun _ => ⟨ofi3 hj, ofi4 hj, ?_⟩, fun q => absurd h4 q⟩
  have eo : ∀ v, v < 15 → kd (offF u.1 j) k v = kd u.1 k v := fun v hv => by unfold offF; rw [kd_setM hk hv, kd_setM hk hv]
  unfold wp_Mod_passOn
  simp only [okc1 hk, okc2 hk, okc3 hk, forall_eq]
  refine ⟨oki2 hk, fun _ => ⟨oki1 hk, oki1 hk, ?_⟩, fun q => absurd ((eo 2 (by omega)).trans h2) q⟩
  have e1 := eo 1 (by omega)
  rw [← e1] at h
  exact h
theorem t_drop_k {u : RS} {j k n q : Nat} {Post : Int32 → RS → Prop} (hj : j < 12) (hk : k < 4) (hn : n ≤ 12) (hn0 : 0 < n) (hq : q < 12) (h3 : mb u.1 j 3 = nI k) (h4 : mb u.1 j 4 = 1) (h2 : kd u.1 k 2 = nI n) (hf : kd u.1 k 3 = nI q) (h : Post (nI q) (rR u (setM (leaveF (offF u.1 j) k 0 n (n - 1)) q 4 1))) : wp_Mod_drop u (nI j) Post := by
  unfold wp_Mod_drop
  simp only [ofc3 hj, ofc4 hj, forall_eq]
  have e3 : u.1 (70 + 13 * j + 3) = nI k := h3
  rw [e3]
  refine ⟨ofi3 hj, ofi4 hj, fun _ => ⟨ofi3 hj, ofi4 hj, ?_⟩, fun q => absurd h4 q⟩
  have eo : ∀ v, v < 15 → kd (offF u.1 j) k v = kd u.1 k v := fun v hv => by unfold offF; rw [kd_setM hk hv, kd_setM hk hv]
  unfold wp_Mod_passOn
  simp only [okc1 hk, okc2 hk, okc3 hk, forall_eq]
  refine ⟨oki2 hk, fun z => absurd (((eo 2 (by omega)).trans h2).symm.trans z) (nI_ne0 hn0 (by omega)), fun _ => ⟨oki3 hk, ?_⟩⟩
  have ef : ∀ v1 v2 : Int32, (rR (rR u (upd u.1 (70 + 13 * j + 3) v1)) (upd (rR u (upd u.1 (70 + 13 * j + 3) v1)).1 (70 + 13 * j + 4) v2)).1 (10 + 15 * k + 3) = nI q := fun v1 v2 => (show kd (setM (setM u.1 j 3 v1) j 4 v2) k 3 = nI q by rw [kd_setM hk (by omega), kd_setM hk (by omega)]; exact hf)
  rw [ef]
  refine t_leaveRow (n := n) (p := 0) hk hn ((eo 2 (by omega)).trans h2) hn0 ?_
  rw [ofc4 hq]
  exact ⟨ofi4 hq, h⟩
