/-! The reference: what is refused, and the simple changes as functions on the row. -/
theorem ofc0 {j : Nat} (hj : j < 12) : (pf_Mod_of (nI j) 0).toNatClampNeg = 70 + 13 * j + 0 := of_cl (w := 0) hj (by omega)
theorem ofi0 {j : Nat} (hj : j < 12) : vp_in (pf_Mod_of (nI j) 0) 4306 := of_in (w := 0) hj (by omega)
theorem ofc1 {j : Nat} (hj : j < 12) : (pf_Mod_of (nI j) 1).toNatClampNeg = 70 + 13 * j + 1 := of_cl (w := 1) hj (by omega)
theorem ofi1 {j : Nat} (hj : j < 12) : vp_in (pf_Mod_of (nI j) 1) 4306 := of_in (w := 1) hj (by omega)
theorem ofc2 {j : Nat} (hj : j < 12) : (pf_Mod_of (nI j) 2).toNatClampNeg = 70 + 13 * j + 2 := of_cl (w := 2) hj (by omega)
theorem ofi2 {j : Nat} (hj : j < 12) : vp_in (pf_Mod_of (nI j) 2) 4306 := of_in (w := 2) hj (by omega)
theorem ofc3 {j : Nat} (hj : j < 12) : (pf_Mod_of (nI j) 3).toNatClampNeg = 70 + 13 * j + 3 := of_cl (w := 3) hj (by omega)
theorem ofi3 {j : Nat} (hj : j < 12) : vp_in (pf_Mod_of (nI j) 3) 4306 := of_in (w := 3) hj (by omega)
theorem ofc4 {j : Nat} (hj : j < 12) : (pf_Mod_of (nI j) 4).toNatClampNeg = 70 + 13 * j + 4 := of_cl (w := 4) hj (by omega)
theorem ofi4 {j : Nat} (hj : j < 12) : vp_in (pf_Mod_of (nI j) 4) 4306 := of_in (w := 4) hj (by omega)
theorem ofc5 {j : Nat} (hj : j < 12) : (pf_Mod_of (nI j) 5).toNatClampNeg = 70 + 13 * j + 5 := of_cl (w := 5) hj (by omega)
theorem ofi5 {j : Nat} (hj : j < 12) : vp_in (pf_Mod_of (nI j) 5) 4306 := of_in (w := 5) hj (by omega)
theorem ofc6 {j : Nat} (hj : j < 12) : (pf_Mod_of (nI j) 6).toNatClampNeg = 70 + 13 * j + 6 := of_cl (w := 6) hj (by omega)
theorem ofi6 {j : Nat} (hj : j < 12) : vp_in (pf_Mod_of (nI j) 6) 4306 := of_in (w := 6) hj (by omega)
theorem ofc7 {j : Nat} (hj : j < 12) : (pf_Mod_of (nI j) 7).toNatClampNeg = 70 + 13 * j + 7 := of_cl (w := 7) hj (by omega)
theorem ofi7 {j : Nat} (hj : j < 12) : vp_in (pf_Mod_of (nI j) 7) 4306 := of_in (w := 7) hj (by omega)
theorem ofc8 {j : Nat} (hj : j < 12) : (pf_Mod_of (nI j) 8).toNatClampNeg = 70 + 13 * j + 8 := of_cl (w := 8) hj (by omega)
theorem ofi8 {j : Nat} (hj : j < 12) : vp_in (pf_Mod_of (nI j) 8) 4306 := of_in (w := 8) hj (by omega)
theorem ofc9 {j : Nat} (hj : j < 12) : (pf_Mod_of (nI j) 9).toNatClampNeg = 70 + 13 * j + 9 := of_cl (w := 9) hj (by omega)
theorem ofi9 {j : Nat} (hj : j < 12) : vp_in (pf_Mod_of (nI j) 9) 4306 := of_in (w := 9) hj (by omega)
theorem ofc10 {j : Nat} (hj : j < 12) : (pf_Mod_of (nI j) 10).toNatClampNeg = 70 + 13 * j + 10 := of_cl (w := 10) hj (by omega)
theorem ofi10 {j : Nat} (hj : j < 12) : vp_in (pf_Mod_of (nI j) 10) 4306 := of_in (w := 10) hj (by omega)
theorem ofc11 {j : Nat} (hj : j < 12) : (pf_Mod_of (nI j) 11).toNatClampNeg = 70 + 13 * j + 11 := of_cl (w := 11) hj (by omega)
theorem ofi11 {j : Nat} (hj : j < 12) : vp_in (pf_Mod_of (nI j) 11) 4306 := of_in (w := 11) hj (by omega)
theorem ofc12 {j : Nat} (hj : j < 12) : (pf_Mod_of (nI j) 12).toNatClampNeg = 70 + 13 * j + 12 := of_cl (w := 12) hj (by omega)
theorem ofi12 {j : Nat} (hj : j < 12) : vp_in (pf_Mod_of (nI j) 12) 4306 := of_in (w := 12) hj (by omega)
theorem okc0 {k : Nat} (hk : k < 4) : (pf_Mod_ofKind (nI k) 0).toNatClampNeg = 10 + 15 * k + 0 := ok_cl (w := 0) hk (by omega)
theorem oki0 {k : Nat} (hk : k < 4) : vp_in (pf_Mod_ofKind (nI k) 0) 4306 := ok_in (w := 0) hk (by omega)
theorem okc1 {k : Nat} (hk : k < 4) : (pf_Mod_ofKind (nI k) 1).toNatClampNeg = 10 + 15 * k + 1 := ok_cl (w := 1) hk (by omega)
theorem oki1 {k : Nat} (hk : k < 4) : vp_in (pf_Mod_ofKind (nI k) 1) 4306 := ok_in (w := 1) hk (by omega)
theorem okc2 {k : Nat} (hk : k < 4) : (pf_Mod_ofKind (nI k) 2).toNatClampNeg = 10 + 15 * k + 2 := ok_cl (w := 2) hk (by omega)
theorem oki2 {k : Nat} (hk : k < 4) : vp_in (pf_Mod_ofKind (nI k) 2) 4306 := ok_in (w := 2) hk (by omega)
theorem okc3 {k : Nat} (hk : k < 4) : (pf_Mod_ofKind (nI k) 3).toNatClampNeg = 10 + 15 * k + 3 := ok_cl (w := 3) hk (by omega)
theorem oki3 {k : Nat} (hk : k < 4) : vp_in (pf_Mod_ofKind (nI k) 3) 4306 := ok_in (w := 3) hk (by omega)
def memR (f : Nat → Int32) (p : Int32) : Prop := 0 ≤ p.toInt ∧ p.toInt < (f 1).toInt
theorem RG.memR {f : Nat → Int32} {w N : Nat} (h : RG f w N) {p : Int32} : memR f p ↔ isM N p := h.mem
def isK (k : Int32) : Prop := 0 ≤ k.toInt ∧ k.toInt ≤ 3
theorem isK_of {k : Int32} (h : isK k) : ∃ j, j < 4 ∧ k = nI j := vp_in_of (vp_in_iff.mpr ⟨h.1, by have := h.2; omega⟩) (by omega)
theorem isKind0 {k : Int32} : pf_Mod_isKind k = 0 ↔ ¬ isK k := in15
/-- refusals: -1 where the arguments don't fit, -2 where the state doesn't -/
def Rf (a b : Prop) (x : Int32) : Prop := (¬ a → x = -1) ∧ (a → b → x = -2) ∧ (a → ¬ b → x = 0)

/-- what each call asks of its arguments, and when the state refuses it -/
def aStick (f : Nat → Int32) (p k : Int32) : Prop := memR f p ∧ 1 ≤ k.toInt ∧ k.toInt ≤ 5
def bStick (f : Nat → Int32) (j : Nat) : Prop := f 2 = 1 ∨ ¬ mb f j 1 = 0 ∨ goodR f j (f 0).toNatClampNeg = true
def aWd (f : Nat → Int32) (p k : Int32) : Prop := memR f p ∧ 1 ≤ k.toInt ∧ k.toInt ≤ 999
def bWd (f : Nat → Int32) (j : Nat) (k : Int32) : Prop := f 2 = 1 ∨ ¬ mb f j 1 = 0 ∨ mb f j 0 < k
def bMis (f : Nat → Int32) (j : Nat) : Prop := f 2 = 1 ∨ ¬ mb f j 1 = 0
def bFind (f : Nat → Int32) (j : Nat) : Prop := f 2 = 1 ∨ ¬ mb f j 1 = 1
def bCh (f : Nat → Int32) (j : Nat) (k : Int32) : Prop := f 2 = 1 ∨ mb f j 3 = k
def bGu (f : Nat → Int32) (j : Nat) : Prop := f 2 = 1 ∨ mb f j 3 = -9
theorem t_noWithdraw {u : RS} {p k : Int32} {Post : Int32 → RS → Prop} {w N : Nat} (hg : RG u.1 w N) (h1 : ¬ aWd u.1 p k → Post (-1) u) (h2 : ∀ j, j < N → p = nI j → 1 ≤ k.toInt → k.toInt ≤ 999 → (bWd u.1 j k → Post (-2) u) ∧ (¬ bWd u.1 j k → Post 0 u)) : wp_Mod_noWithdraw u p k Post := by
  have hm := hg.memR (p := p)
  unfold wp_Mod_noWithdraw
  refine s_isMember hg (fun hM => ⟨fun q => absurd q (by decide), fun _ => ?_⟩) (fun hM => ⟨fun _ => h1 (fun q => hM (hm.mp q.1)), fun q => absurd rfl q⟩)
  rw [in15]
  refine ⟨fun hk => h1 (fun q => hk ⟨q.2.1, q.2.2⟩), fun hk => ?_⟩
  have hk' := Decidable.not_not.mp hk
  obtain ⟨j, hj, rfl⟩ := isM_of hM hg.2.1
  have hN := hg.2.1
  obtain ⟨g1, g2⟩ := h2 j hj rfl hk'.1 hk'.2
  refine s_isSettled (fun hs => ⟨fun q => absurd q (by decide), fun _ => g1 (Or.inl hs)⟩) (fun hs => ⟨fun _ => ?_, fun q => absurd rfl q⟩)
  refine s_isInHand (by omega) (fun hc => ⟨fun q => absurd q (by decide), fun _ => ?_⟩) (fun hc => ⟨fun _ => g1 (Or.inr (Or.inl hc)), fun q => absurd rfl q⟩)
  rw [ofc0 (by omega)]
  refine ⟨ofi0 (by omega), fun q => g2 ?_, fun q => g1 (Or.inr (Or.inr (Int32.not_le.mp q)))⟩
  exact fun z => z.elim hs (fun z => z.elim (fun z => z hc) (fun z => absurd q (Int32.not_le.mpr z)))
theorem t_noStick {u : RS} {p k : Int32} {Post : Int32 → RS → Prop} {w N : Nat} (hg : RG u.1 w N) (h1 : ¬ aStick u.1 p k → Post (-1) u) (h2 : ∀ j, j < N → p = nI j → 1 ≤ k.toInt → k.toInt ≤ 5 → (bStick u.1 j → Post (-2) u) ∧ (¬ bStick u.1 j → Post 0 u)) : wp_Mod_noStick u p k Post := by
  have hm := hg.memR (p := p)
  have hw : u.1 0 = nI w := hg.2.2.1
  have hw60 := hg.1
  unfold wp_Mod_noStick
  refine s_isMember hg (fun hM => ⟨fun q => absurd q (by decide), fun _ => ?_⟩) (fun hM => ⟨fun _ => h1 (fun q => hM (hm.mp q.1)), fun q => absurd rfl q⟩)
  rw [in15]
  refine ⟨fun hk => h1 (fun q => hk ⟨q.2.1, q.2.2⟩), fun hk => ?_⟩
  have hk' := Decidable.not_not.mp hk
  obtain ⟨j, hj, rfl⟩ := isM_of hM hg.2.1
  have hN := hg.2.1
  obtain ⟨g1, g2⟩ := h2 j hj rfl hk'.1 hk'.2
  unfold bStick at g1 g2
  rw [hw, nI_clamp (by omega)] at g1 g2
  refine s_isSettled (fun hs => ⟨fun q => absurd q (by decide), fun _ => g1 (Or.inl hs)⟩) (fun hs => ⟨fun _ => ?_, fun q => absurd rfl q⟩)
  refine s_isInHand (by omega) (fun hc => ⟨fun q => absurd q (by decide), fun _ => ?_⟩) (fun hc => ⟨fun _ => g1 (Or.inr (Or.inl hc)), fun q => absurd rfl q⟩)
  rw [c0, hw]
  refine s_isGoodWeek (by omega) (by omega) (fun hb => ⟨fun q => absurd q (by decide), fun _ => g1 (Or.inr (Or.inr hb))⟩) (fun hb => ⟨fun _ => g2 ?_, fun q => absurd rfl q⟩)
  exact fun z => z.elim hs (fun z => z.elim (fun z => z hc) hb)
theorem t_noMislay {u : RS} {p : Int32} {Post : Int32 → RS → Prop} {w N : Nat} (hg : RG u.1 w N) (h1 : ¬ memR u.1 p → Post (-1) u) (h2 : ∀ j, j < N → p = nI j → (bMis u.1 j → Post (-2) u) ∧ (¬ bMis u.1 j → Post 0 u)) : wp_Mod_noMislay u p Post := by
  have hm := hg.memR (p := p)
  unfold wp_Mod_noMislay
  refine s_isMember hg (fun hM => ⟨fun q => absurd q (by decide), fun _ => ?_⟩) (fun hM => ⟨fun _ => h1 (fun q => hM (hm.mp q)), fun q => absurd rfl q⟩)
  obtain ⟨j, hj, rfl⟩ := isM_of hM hg.2.1
  have hN := hg.2.1
  obtain ⟨g1, g2⟩ := h2 j hj rfl
  refine s_isSettled (fun hs => ⟨fun q => absurd q (by decide), fun _ => g1 (Or.inl hs)⟩) (fun hs => ⟨fun _ => ?_, fun q => absurd rfl q⟩)
  exact s_isInHand (by omega) (fun hc => ⟨fun q => absurd q (by decide), fun _ => g2 (fun z => z.elim hs (fun z => z hc))⟩) (fun hc => ⟨fun _ => g1 (Or.inr hc), fun q => absurd rfl q⟩)
theorem t_noFind {u : RS} {p : Int32} {Post : Int32 → RS → Prop} {w N : Nat} (hg : RG u.1 w N) (h1 : ¬ memR u.1 p → Post (-1) u) (h2 : ∀ j, j < N → p = nI j → (bFind u.1 j → Post (-2) u) ∧ (¬ bFind u.1 j → Post 0 u)) : wp_Mod_noFind u p Post := by
  have hm := hg.memR (p := p)
  unfold wp_Mod_noFind
  refine s_isMember hg (fun hM => ⟨fun q => absurd q (by decide), fun _ => ?_⟩) (fun hM => ⟨fun _ => h1 (fun q => hM (hm.mp q)), fun q => absurd rfl q⟩)
  obtain ⟨j, hj, rfl⟩ := isM_of hM hg.2.1
  have hN := hg.2.1
  obtain ⟨g1, g2⟩ := h2 j hj rfl
  refine s_isSettled (fun hs => ⟨fun q => absurd q (by decide), fun _ => g1 (Or.inl hs)⟩) (fun hs => ⟨fun _ => ?_, fun q => absurd rfl q⟩)
  rw [ofc1 (by omega)]
  exact ⟨ofi1 (by omega), fun q => g2 (fun z => z.elim hs (fun z => z q)), fun q => g1 (Or.inr q)⟩
theorem t_noChoose {u : RS} {p k : Int32} {Post : Int32 → RS → Prop} {w N : Nat} (hg : RG u.1 w N) (h1 : ¬ (memR u.1 p ∧ isK k) → Post (-1) u) (h2 : ∀ j i, j < N → p = nI j → i < 4 → k = nI i → (bCh u.1 j (nI i) → Post (-2) u) ∧ (¬ bCh u.1 j (nI i) → Post 0 u)) : wp_Mod_noChoose u p k Post := by
  have hm := hg.memR (p := p)
  unfold wp_Mod_noChoose
  refine s_isMember hg (fun hM => ⟨fun q => absurd q (by decide), fun _ => ?_⟩) (fun hM => ⟨fun _ => h1 (fun q => hM (hm.mp q.1)), fun q => absurd rfl q⟩)
  rw [isKind0]
  refine ⟨fun hk => h1 (fun q => hk q.2), fun hk => ?_⟩
  obtain ⟨i, hi, rfl⟩ := isK_of (Classical.not_not.mp hk)
  obtain ⟨j, hj, rfl⟩ := isM_of hM hg.2.1
  have hN := hg.2.1
  obtain ⟨g1, g2⟩ := h2 j i hj rfl hi rfl
  refine s_isSettled (fun hs => ⟨fun q => absurd q (by decide), fun _ => g1 (Or.inl hs)⟩) (fun hs => ⟨fun _ => ?_, fun q => absurd rfl q⟩)
  rw [ofc3 (by omega)]
  exact ⟨ofi3 (by omega), fun q => g1 (Or.inr q), fun q => g2 (fun z => z.elim hs (fun z => q z))⟩
theorem t_noGiveUp {u : RS} {p : Int32} {Post : Int32 → RS → Prop} {w N : Nat} (hg : RG u.1 w N) (h1 : ¬ memR u.1 p → Post (-1) u) (h2 : ∀ j, j < N → p = nI j → (bGu u.1 j → Post (-2) u) ∧ (¬ bGu u.1 j → Post 0 u)) : wp_Mod_noGiveUp u p Post := by
  have hm := hg.memR (p := p)
  unfold wp_Mod_noGiveUp
  refine s_isMember hg (fun hM => ⟨fun q => absurd q (by decide), fun _ => ?_⟩) (fun hM => ⟨fun _ => h1 (fun q => hM (hm.mp q)), fun q => absurd rfl q⟩)
  obtain ⟨j, hj, rfl⟩ := isM_of hM hg.2.1
  have hN := hg.2.1
  obtain ⟨g1, g2⟩ := h2 j hj rfl
  refine s_isSettled (fun hs => ⟨fun q => absurd q (by decide), fun _ => g1 (Or.inl hs)⟩) (fun hs => ⟨fun _ => ?_, fun q => absurd rfl q⟩)
  rw [ofc3 (by omega)]
  exact ⟨ofi3 (by omega), fun q => g1 (Or.inr q), fun q => g2 (fun z => z.elim hs (fun z => q z))⟩
theorem t_noWeek {u : RS} {Post : Int32 → RS → Prop} (h1 : u.1 2 = 1 → Post (-2) u) (h2 : ¬ u.1 2 = 1 → u.1 0 = 60 → Post (-3) u) (h3 : ¬ u.1 2 = 1 → ¬ u.1 0 = 60 → Post 0 u) : wp_Mod_noWeek u Post := by
  unfold wp_Mod_noWeek
  refine s_isSettled (fun hs => ⟨fun q => absurd q (by decide), fun _ => h1 hs⟩) (fun hs => ⟨fun _ => ?_, fun q => absurd rfl q⟩)
  rw [c0]
  exact ⟨h2 hs, h3 hs⟩
/-! the simple changes -/
def payF (g : Nat → Int32) (j : Nat) (v : Int32) : Nat → Int32 :=
  let g1 := setG g 3 (g 3 - v)
  let g2 := setG g1 6 (g1 6 + v)
  setM g2 j 10 (mb g2 j 10 + v)
def stickF (g : Nat → Int32) (j : Nat) (k : Int32) (w : Nat) : Nat → Int32 :=
  let g1 := setM g j 0 (mb g j 0 + k)
  let g2 := setM g1 j (7 + w / 31) (mb g1 j (7 + w / 31) ||| (1 <<< (nI (w % 31) &&& 31)))
  let g3 := setM g2 j 9 (nI w)
  let g4 := setG g3 3 (g3 3 + 10 * k)
  setG g4 5 (g4 5 + 10 * k)
def charge (k : Int32) : Int32 := if 10 * k ≤ k + 5 then 10 * k else k + 5
def wdF (g : Nat → Int32) (j : Nat) (k : Int32) : Nat → Int32 :=
  let g1 := setM g j 0 (mb g j 0 - k)
  let g2 := setM g1 j 5 1
  let g3 := setG g2 4 (g2 4 + charge k)
  payF g3 j (10 * k - charge k)
def misF (g : Nat → Int32) (j : Nat) : Nat → Int32 :=
  let g1 := setM g j 1 1
  setM g1 j 2 (g1 0)
def findF (g : Nat → Int32) (j : Nat) : Nat → Int32 := setM g j 1 0
def hamF (g : Nat → Int32) (k : Nat) (p s : Int32) : Nat → Int32 := setK (setK g k 0 p) k 1 s
theorem t_payOut {u : RS} {j : Nat} {v : Int32} {Post : RS → Prop} (hj : j < 12) (h : Post (rR u (payF u.1 j v))) : wp_Mod_payOut u (nI j) v Post := by
  unfold wp_Mod_payOut
  simp only [ofc10 hj, c3, c6, forall_eq]
  exact ⟨ofi10 hj, ofi10 hj, h⟩
theorem t_doMislay {u : RS} {j : Nat} {Post : Int32 → RS → Prop} (hj : j < 12) (h : Post (u.1 0 + 3) (rR u (misF u.1 j))) : wp_Mod_doMislay u (nI j) Post := by
  unfold wp_Mod_doMislay
  simp only [ofc1 hj, ofc2 hj, c0, forall_eq]
  refine ⟨ofi1 hj, ofi2 hj, ?_⟩
  have e : misF u.1 j 0 = u.1 0 := by unfold misF; rw [gl_setM (by omega), gl_setM (by omega)]
  rw [← e] at h
  exact h
theorem t_doFind {u : RS} {j : Nat} {Post : Int32 → RS → Prop} (hj : j < 12) (h : Post (u.1 0 - mb u.1 j 2) (rR u (findF u.1 j))) : wp_Mod_doFind u (nI j) Post := by
  unfold wp_Mod_doFind
  simp only [ofc1 hj, ofc2 hj, c0, forall_eq]
  refine ⟨ofi1 hj, ofi2 hj, ?_⟩
  have e : findF u.1 j 0 = u.1 0 := by unfold findF; rw [gl_setM (by omega)]
  have e2 : mb (findF u.1 j) j 2 = mb u.1 j 2 := by unfold findF; rw [mb_setM (by omega) (by omega), if_neg (by omega)]
  rw [← e, ← e2] at h
  exact h
theorem t_doStick {u : RS} {j w : Nat} {k : Int32} {Post : Int32 → RS → Prop} (hj : j < 12) (hw : w ≤ 60) (h0 : u.1 0 = nI w) (h : Post (mb u.1 j 0 + k) (rR u (stickF u.1 j k w))) : wp_Mod_doStick u (nI j) k Post := by
  unfold wp_Mod_doStick
  simp only [ofc0 hj, ofc9 hj, c0, c3, c5, forall_eq]
  have e0 : ∀ v : Int32, (rR u (upd u.1 (70 + 13 * j + 0) v)).1 0 = nI w := fun v => (gl_setM (f := u.1) (m := j) (w := 0) (g := 0) (by omega)).trans h0
  have hd : (7 : Int32) + nI w / 31 = nI (7 + w / 31) := by rw [wk_div (by omega), show (7 : Int32) = nI 7 from rfl, nI_add]
  simp only [e0, hd, wk_rem (show w < 2 ^ 31 by omega), of_cl hj (show 7 + w / 31 < 13 by omega)]
  refine ⟨ofi0 hj, ofi0 hj, of_in hj (by omega), of_in hj (by omega), ofi9 hj, ofi0 hj, ?_⟩
  have e1 : ∀ v1 v2 : Int32, (rR (rR u (upd u.1 (70 + 13 * j + 0) v1)) (upd (rR u (upd u.1 (70 + 13 * j + 0) v1)).1 (70 + 13 * j + (7 + w / 31)) v2)).1 0 = nI w := fun v1 v2 => (gl_setM (f := setM u.1 j 0 v1) (m := j) (w := 7 + w / 31) (g := 0) (by omega)).trans (e0 v1)
  simp only [e1]
  have e : mb (stickF u.1 j k w) j 0 = mb u.1 j 0 + k := by
    unfold stickF
    simp only [mb_setG (show 5 < 10 by omega), mb_setG (show 3 < 10 by omega), mb_setM (show 9 < 13 by omega) (show 0 < 13 by omega), mb_setM (show 7 + w / 31 < 13 by omega) (show 0 < 13 by omega), mb_setM (show 0 < 13 by omega) (show 0 < 13 by omega)]
    simp [show ¬ (0 = 7 + w / 31) by omega]
  rw [← e] at h
  exact h
theorem t_doWithdraw {u : RS} {j : Nat} {k : Int32} {Post : Int32 → RS → Prop} (hj : j < 12) (h : Post (10 * k - charge k) (rR u (wdF u.1 j k))) : wp_Mod_doWithdraw u (nI j) k Post := by
  unfold wp_Mod_doWithdraw
  simp only [ofc0 hj, ofc5 hj, c4, forall_eq]
  refine ⟨fun hc => ?_, fun hc => ?_⟩
  · have e : charge k = 10 * k := if_pos hc
    unfold wdF at h
    rw [e] at h
    exact ⟨ofi0 hj, ofi0 hj, ofi5 hj, t_payOut hj h⟩
  · have e : charge k = k + 5 := if_neg hc
    unfold wdF at h
    rw [e] at h
    exact ⟨ofi0 hj, ofi0 hj, ofi5 hj, t_payOut hj h⟩
