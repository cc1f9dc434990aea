/-! All numbers in one. -/
def fo (f : Nat → Int32) : Nat → Int64 → Int64
  | 0, a => a
  | n + 1, a => 31 * fo f n a + (f n).toInt64
theorem ge_of {L i : Nat} (hL : L < 2 ^ 31) (h : i ≤ L) (q : nI L ≤ nI i) : i = L := by
  rcases Nat.lt_or_ge i L with z | z
  · exact absurd q (nI_ge z (by omega))
  · omega
theorem lt_of {L i : Nat} (hL : L < 2 ^ 31) (h : i ≤ L) (q : ¬ nI L ≤ nI i) : i < L := Nat.lt_of_not_le (fun z => q (nI_le z (by omega)))
theorem all_6 {z : ZZ} {w N : Nat} {a0 : Int64} {Post : Int64 → ZZ → Prop} {K : Int64 → ZZ → Prop} (hG : InvG z.1 w N) (h : K (fo (cntV z.1 z.2.1 z.2.2.2.1 N) 14 a0) z) : ∀ n i, i ≤ 14 → 14 - i < n → wl_Law_all_6 Post K n (fo (cntV z.1 z.2.1 z.2.2.2.1 N) i a0) (nI i) z := by
  intro n
  induction n with
  | zero => intro i h1 h2; omega
  | succ n ih =>
    intro i h1 h2
    unfold wl_Law_all_6
    refine ⟨fun q => ?_, fun q => ?_⟩
    · have := ge_of (L := 14) (by omega) h1 q
      subst this
      exact h
    · have hi := lt_of (L := 14) (by omega) h1 q
      refine o_count hG hi ?_
      intro x ex y ey
      rw [ex, ey, nI_1]
      exact ih (i + 1) (by omega) (by omega)
theorem all_6s {z : ZZ} {w N : Nat} {a0 : Int64} {Post : Int64 → ZZ → Prop} {K : Int64 → ZZ → Prop} (hG : InvG z.1 w N) (h : K (fo (cntV z.1 z.2.1 z.2.2.2.1 N) 14 a0) z) : wl_Law_all_6 Post K (14 + 1) a0 0 z := all_6 hG h (14 + 1) 0 (by omega) (by omega)
theorem all_33 {z : ZZ} {w N : Nat} {a0 : Int64} {Post : Int64 → ZZ → Prop} {K : Int64 → ZZ → Prop} (hG : InvG z.1 w N) (h : K (fo (fun i => hamV z.1 (i / 4) (i % 4)) 16 a0) z) : ∀ n i, i ≤ 16 → 16 - i < n → wl_Law_all_33 Post K n (fo (fun i => hamV z.1 (i / 4) (i % 4)) i a0) (nI i) z := by
  intro n
  induction n with
  | zero => intro i h1 h2; omega
  | succ n ih =>
    intro i h1 h2
    unfold wl_Law_all_33
    refine ⟨fun q => ?_, fun q => ?_⟩
    · have := ge_of (L := 16) (by omega) h1 q
      subst this
      exact h
    · have hi := lt_of (L := 16) (by omega) h1 q
      have e1 : nI i / 4 = nI (i / 4) := pk_div (d := 4) (by omega) (by omega) (by omega)
      have e2 : nI i - nI i / 4 * 4 = nI (i % 4) := pk_rem (d := 4) (by omega) (by omega) (by omega)
      rw [e2, e1]
      refine o_hamper (by omega) (by omega) ?_
      intro x ex y ey
      rw [ex, ey, nI_1]
      exact ih (i + 1) (by omega) (by omega)
theorem all_33s {z : ZZ} {w N : Nat} {a0 : Int64} {Post : Int64 → ZZ → Prop} {K : Int64 → ZZ → Prop} (hG : InvG z.1 w N) (h : K (fo (fun i => hamV z.1 (i / 4) (i % 4)) 16 a0) z) : wl_Law_all_33 Post K (16 + 1) a0 0 z := all_33 hG h (16 + 1) 0 (by omega) (by omega)
theorem all_65 {z : ZZ} {w N : Nat} {a0 : Int64} {Post : Int64 → ZZ → Prop} {K : Int64 → ZZ → Prop} (hG : InvG z.1 w N) (h : K (fo (fun i => waitV z.1 (i / 12) (i % 12)) 48 a0) z) : ∀ n i, i ≤ 48 → 48 - i < n → wl_Law_all_65 Post K n (fo (fun i => waitV z.1 (i / 12) (i % 12)) i a0) (nI i) z := by
  intro n
  induction n with
  | zero => intro i h1 h2; omega
  | succ n ih =>
    intro i h1 h2
    unfold wl_Law_all_65
    refine ⟨fun q => ?_, fun q => ?_⟩
    · have := ge_of (L := 48) (by omega) h1 q
      subst this
      exact h
    · have hi := lt_of (L := 48) (by omega) h1 q
      have e1 : nI i / 12 = nI (i / 12) := pk_div (d := 12) (by omega) (by omega) (by omega)
      have e2 : nI i - nI i / 12 * 12 = nI (i % 12) := pk_rem (d := 12) (by omega) (by omega) (by omega)
      rw [e2, e1]
      refine o_waiting (by omega) (by omega) ?_
      intro x ex y ey
      rw [ex, ey, nI_1]
      exact ih (i + 1) (by omega) (by omega)
theorem all_65s {z : ZZ} {w N : Nat} {a0 : Int64} {Post : Int64 → ZZ → Prop} {K : Int64 → ZZ → Prop} (hG : InvG z.1 w N) (h : K (fo (fun i => waitV z.1 (i / 12) (i % 12)) 48 a0) z) : wl_Law_all_65 Post K (48 + 1) a0 0 z := all_65 hG h (48 + 1) 0 (by omega) (by omega)
theorem all_111 {z : ZZ} {w N : Nat} {a0 : Int64} {Post : Int64 → ZZ → Prop} {K : Int64 → Int32 → ZZ → Prop} (hG : InvG z.1 w N) {m : Nat} (hm : m < N) (h : K (fo (memV z.1 w m) 11 a0) (nI m) z) : ∀ n i, i ≤ 11 → 11 - i < n → wl_Law_all_111 Post K n (fo (memV z.1 w m) i a0) (nI m) (nI i) z := by
  intro n
  induction n with
  | zero => intro i h1 h2; omega
  | succ n ih =>
    intro i h1 h2
    unfold wl_Law_all_111
    refine ⟨fun q => ?_, fun q => ?_⟩
    · have := ge_of (L := 11) (by omega) h1 q
      subst this
      exact h
    · have hi := lt_of (L := 11) (by omega) h1 q
      refine o_member hG hm hi ?_
      intro x ex y ey
      rw [ex, ey, nI_1]
      exact ih (i + 1) (by omega) (by omega)
theorem all_111s {z : ZZ} {w N : Nat} {a0 : Int64} {Post : Int64 → ZZ → Prop} {K : Int64 → Int32 → ZZ → Prop} (hG : InvG z.1 w N) {m : Nat} (hm : m < N) (h : K (fo (memV z.1 w m) 11 a0) (nI m) z) : wl_Law_all_111 Post K (11 + 1) a0 (nI m) 0 z := all_111 hG hm h (11 + 1) 0 (by omega) (by omega)
theorem all_142 {z : ZZ} {w N : Nat} {a0 : Int64} {Post : Int64 → ZZ → Prop} {K : Int64 → Int32 → ZZ → Prop} (hG : InvG z.1 w N) {m : Nat} (hm : m < N) (h : K (fo (isgV z.1 m) 61 a0) (nI m) z) : ∀ n i, i ≤ 61 → 61 - i < n → wl_Law_all_142 Post K n (fo (isgV z.1 m) i a0) (nI m) (nI i) z := by
  intro n
  induction n with
  | zero => intro i h1 h2; omega
  | succ n ih =>
    intro i h1 h2
    unfold wl_Law_all_142
    refine ⟨fun q => ?_, fun q => ?_⟩
    · have := ge_of (L := 61) (by omega) h1 q
      subst this
      exact h
    · have hi := lt_of (L := 61) (by omega) h1 q
      refine o_isGood hG hm (by omega) ?_
      intro x ex y ey
      rw [ex, ey, nI_1]
      exact ih (i + 1) (by omega) (by omega)
theorem all_142s {z : ZZ} {w N : Nat} {a0 : Int64} {Post : Int64 → ZZ → Prop} {K : Int64 → Int32 → ZZ → Prop} (hG : InvG z.1 w N) {m : Nat} (hm : m < N) (h : K (fo (isgV z.1 m) 61 a0) (nI m) z) : wl_Law_all_142 Post K (61 + 1) a0 (nI m) 0 z := all_142 hG hm h (61 + 1) 0 (by omega) (by omega)
def foM (c : CS) (w : Nat) : Nat → Int64 → Int64
  | 0, a => a
  | m + 1, a => fo (isgV c m) 61 (fo (memV c w m) 11 (foM c w m a))
theorem all_99 {z : ZZ} {w N : Nat} {a0 : Int64} {Post : Int64 → ZZ → Prop} {K : Int64 → ZZ → Prop} (hG : InvG z.1 w N) (h : K (foM z.1 w N a0) z) : ∀ n i, i ≤ N → N - i < n → wl_Law_all_99 Post K n (foM z.1 w i a0) (nI i) z := by
  have hN := hG.2.1
  intro n
  induction n with
  | zero => intro i h1 h2; omega
  | succ n ih =>
    intro i h1 h2
    unfold wl_Law_all_99
    refine o_count (i := 1) hG (by omega) ?_
    have e4 : cntV z.1 z.2.1 z.2.2.2.1 N 1 = nI N := hG.2.2.2.1
    rw [e4]
    refine ⟨fun q => ?_, fun q => ?_⟩
    · have := ge_of (L := N) (by omega) h1 q
      subst this
      exact h
    · have hi := lt_of (L := N) (by omega) h1 q
      refine ⟨12, all_111s hG hi ⟨62, all_142s hG hi ?_⟩⟩
      intro x ex
      rw [ex, nI_1]
      exact ih (i + 1) (by omega) (by omega)
theorem all_99s {z : ZZ} {w N : Nat} {a0 : Int64} {Post : Int64 → ZZ → Prop} {K : Int64 → ZZ → Prop} (hG : InvG z.1 w N) (h : K (foM z.1 w N a0) z) : wl_Law_all_99 Post K (N + 1) a0 0 z := all_99 hG h (N + 1) 0 (by omega) (by omega)
noncomputable def allV (c : CS) (t1 t2 : Int32) (w N : Nat) : Int64 := foM c w N (fo (fun i => waitV c (i / 12) (i % 12)) 48 (fo (fun i => hamV c (i / 4) (i % 4)) 16 (fo (cntV c t1 t2 N) 14 59)))
theorem o_all {z : ZZ} {w N : Nat} {Post : Int64 → ZZ → Prop} (hG : InvG z.1 w N) (h : Post (allV z.1 z.2.1 z.2.2.2.1 w N) z) : wp_Law_all z Post := by
  unfold wp_Law_all
  intro x ex
  rw [ex]
  exact ⟨15, all_6s hG ⟨17, all_33s hG ⟨49, all_65s hG ⟨N + 1, all_99s hG h⟩⟩⟩⟩
