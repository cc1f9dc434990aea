/-! The pure part: the reference's row looked at by members and kinds; numbers. -/
def kd (f : Nat → Int32) (k w : Nat) : Int32 := f (10 + 15 * k + w)
def mb (f : Nat → Int32) (m w : Nat) : Int32 := f (70 + 13 * m + w)
def setG (f : Nat → Int32) (g : Nat) (v : Int32) : Nat → Int32 := upd f g v
def setK (f : Nat → Int32) (k w : Nat) (v : Int32) : Nat → Int32 := upd f (10 + 15 * k + w) v
def setM (f : Nat → Int32) (m w : Nat) (v : Int32) : Nat → Int32 := upd f (70 + 13 * m + w) v
theorem upd_if (f : Nat → Int32) (k : Nat) (v : Int32) (j : Nat) : upd f k v j = if j = k then v else f j := rfl
theorem mb_setM {f : Nat → Int32} {m w : Nat} {v : Int32} {m' w' : Nat} (h : w < 13) (h' : w' < 13) : mb (setM f m w v) m' w' = if m' = m ∧ w' = w then v else mb f m' w' := by
  unfold mb setM
  rw [upd_if]
  by_cases e : m' = m ∧ w' = w
  · rw [if_pos e, if_pos (by omega)]
  · rw [if_neg e, if_neg (by omega)]
theorem mb_setK {f : Nat → Int32} {k w : Nat} {v : Int32} {m' w' : Nat} (h : w < 15) (hk : k < 4) : mb (setK f k w v) m' w' = mb f m' w' := by
  unfold mb setK
  rw [upd_if, if_neg (by omega)]
theorem mb_setG {f : Nat → Int32} {g : Nat} {v : Int32} {m' w' : Nat} (h : g < 10) : mb (setG f g v) m' w' = mb f m' w' := by
  unfold mb setG
  rw [upd_if, if_neg (by omega)]
theorem kd_setM {f : Nat → Int32} {m w : Nat} {v : Int32} {k' w' : Nat} (hk : k' < 4) (h' : w' < 15) : kd (setM f m w v) k' w' = kd f k' w' := by
  unfold kd setM
  rw [upd_if, if_neg (by omega)]
theorem kd_setK {f : Nat → Int32} {k w : Nat} {v : Int32} {k' w' : Nat} (h : w < 15) (h' : w' < 15) : kd (setK f k w v) k' w' = if k' = k ∧ w' = w then v else kd f k' w' := by
  unfold kd setK
  rw [upd_if]
  by_cases e : k' = k ∧ w' = w
  · rw [if_pos e, if_pos (by omega)]
  · rw [if_neg e, if_neg (by omega)]
theorem kd_setG {f : Nat → Int32} {g : Nat} {v : Int32} {k' w' : Nat} (h : g < 10) : kd (setG f g v) k' w' = kd f k' w' := by
  unfold kd setG
  rw [upd_if, if_neg (by omega)]
theorem gl_setM {f : Nat → Int32} {m w : Nat} {v : Int32} {g : Nat} (h : g < 10) : setM f m w v g = f g := by
  unfold setM
  rw [upd_if, if_neg (by omega)]
theorem gl_setK {f : Nat → Int32} {k w : Nat} {v : Int32} {g : Nat} (h : g < 10) : setK f k w v g = f g := by
  unfold setK
  rw [upd_if, if_neg (by omega)]
theorem gl_setG {f : Nat → Int32} {g' : Nat} {v : Int32} {g : Nat} : setG f g' v g = if g = g' then v else f g := rfl
/-- what lies beyond the window stays -/
theorem out_setM {f : Nat → Int32} {m w : Nat} {v : Int32} {i : Nat} (hm : m < 12) (hw : w < 13) (h : 226 ≤ i) : setM f m w v i = f i := by
  unfold setM
  rw [upd_if, if_neg (by omega)]
theorem out_setK {f : Nat → Int32} {k w : Nat} {v : Int32} {i : Nat} (hk : k < 4) (hw : w < 15) (h : 226 ≤ i) : setK f k w v i = f i := by
  unfold setK
  rw [upd_if, if_neg (by omega)]
theorem out_setG {f : Nat → Int32} {g : Nat} {v : Int32} {i : Nat} (hg : g < 10) (h : 226 ≤ i) : setG f g v i = f i := by
  unfold setG
  rw [upd_if, if_neg (by omega)]
/-! indices -/
theorem of_eq {m w : Nat} : pf_Mod_of (nI m) (nI w) = nI (70 + 13 * m + w) := by
  unfold pf_Mod_of
  rw [show (70 : Int32) = nI 70 from rfl, show (13 : Int32) = nI 13 from rfl, pk_mul, nI_add, nI_add]
theorem ok_eq {k w : Nat} : pf_Mod_ofKind (nI k) (nI w) = nI (10 + 15 * k + w) := by
  unfold pf_Mod_ofKind
  rw [show (10 : Int32) = nI 10 from rfl, show (15 : Int32) = nI 15 from rfl, pk_mul, nI_add, nI_add]
theorem of_cl {m w : Nat} (hm : m < 12) (hw : w < 13) : (pf_Mod_of (nI m) (nI w)).toNatClampNeg = 70 + 13 * m + w := by rw [of_eq, nI_clamp (by omega)]
theorem ok_cl {k w : Nat} (hk : k < 4) (hw : w < 15) : (pf_Mod_ofKind (nI k) (nI w)).toNatClampNeg = 10 + 15 * k + w := by rw [ok_eq, nI_clamp (by omega)]
theorem of_in {m w : Nat} (hm : m < 12) (hw : w < 13) : vp_in (pf_Mod_of (nI m) (nI w)) 4306 := by rw [of_eq]; exact vp_in_nI (by omega) (by omega)
theorem ok_in {k w : Nat} (hk : k < 4) (hw : w < 15) : vp_in (pf_Mod_ofKind (nI k) (nI w)) 4306 := by rw [ok_eq]; exact vp_in_nI (by omega) (by omega)
/-! members -/
def isM (N : Nat) (p : Int32) : Prop := 0 ≤ p.toInt ∧ p.toInt < N
theorem isM_of {N : Nat} {p : Int32} (h : isM N p) (hN : N ≤ 12) : ∃ j, j < N ∧ p = nI j := vp_in_of (vp_in_iff.mpr h) (by omega)
theorem isM_nI {N j : Nat} (h : j < N) (hN : N ≤ 12) : isM N (nI j) := by
  unfold isM
  rw [nI_toInt (by omega)]
  omega
theorem in_eq {v a b : Int32} : pf_Mod_in v a b = if a.toInt ≤ v.toInt ∧ v.toInt ≤ b.toInt then 1 else 0 := by
  unfold pf_Mod_in
  simp only [Int32.le_iff_toInt_le]
  by_cases h1 : a.toInt ≤ v.toInt
  · by_cases h2 : v.toInt ≤ b.toInt
    · simp [h1, h2]
    · simp [h1, h2]
  · simp [h1]
theorem in_01 {v a b : Int32} : pf_Mod_in v a b = 0 ∨ pf_Mod_in v a b = 1 := by
  rw [in_eq]
  split
  · exact Or.inr rfl
  · exact Or.inl rfl
theorem inM {N : Nat} {p : Int32} (hN : N ≤ 12) : pf_Mod_in p 0 (nI N - 1) = if 0 ≤ p.toInt ∧ p.toInt < N then 1 else 0 := by
  rw [in_eq, show (1 : Int32) = nI 1 from rfl, pk_sub_toInt (by omega) (by omega), show (0 : Int32).toInt = 0 from rfl]
  by_cases h : 0 ≤ p.toInt ∧ p.toInt < N
  · rw [if_pos h, if_pos (by omega)]
  · rw [if_neg h, if_neg (by omega)]
/-! bits -/
def gbit (g : Int64) (i : Nat) : Bool := g.toBitVec.getLsbD i
def ibit (x : Int32) (i : Nat) : Bool := x.toBitVec.getLsbD i
