/-! Bits: the rows bt .. b_sshr began as the given laws; then the good weeks. -/
def bt (x : Int32) (i : Nat) : Bool := x.toBitVec.getLsbD i
theorem b_ext {x y : Int32} (h : ∀ i, i < 32 → bt x i = bt y i) : x = y := Int32.toBitVec_inj.mp (BitVec.eq_of_getLsbD_eq (fun i hi => h i hi))
theorem b_or (x y : Int32) (i : Nat) : bt (x ||| y) i = (bt x i || bt y i) := by unfold bt; rw [Int32.toBitVec_or, BitVec.getLsbD_or]
theorem b_and (x y : Int32) (i : Nat) : bt (x &&& y) i = (bt x i && bt y i) := by unfold bt; rw [Int32.toBitVec_and, BitVec.getLsbD_and]
theorem b_big {x : Int32} {i : Nat} (h : 32 ≤ i) : bt x i = false := BitVec.getLsbD_of_ge _ _ h
theorem s_l : ∀ n, n < 32 → ((nI n &&& 31).toBitVec.smod 32).toNat = n := by decide +kernel
theorem b_shl (n : Nat) (hn : n < 32) (x : Int32) {i : Nat} (hi : i < 32) : bt (x <<< (nI n &&& 31)) i = (decide (n ≤ i) && bt x (i - n)) := by
  unfold bt
  rw [Int32.toBitVec_shiftLeft]
  show (x.toBitVec <<< ((nI n &&& 31).toBitVec.smod 32).toNat).getLsbD i = _
  rw [s_l n hn, BitVec.getLsbD_shiftLeft]
  rcases Nat.lt_or_ge i n with h | h
  · simp [h, Nat.not_le.mpr h]
  · simp [hi, h, Nat.not_lt.mpr h]
theorem b_sshr (n : Nat) (hn : n < 32) (x : Int32) {i : Nat} (hi : i < 32) : bt (x >>> (nI n &&& 31)) i = if n + i < 32 then bt x (n + i) else bt x 31 := by
  unfold bt
  rw [Int32.toBitVec_shiftRight]
  show (x.toBitVec.sshiftRight ((nI n &&& 31).toBitVec.smod 32).toNat).getLsbD i = _
  rw [s_l n hn, BitVec.getLsbD_sshiftRight, BitVec.msb_eq_getLsbD_last]
  simp [hi]
theorem ibit_bt (x : Int32) (i : Nat) : ibit x i = bt x i := rfl
theorem w63 : ∀ k, k < 64 → ((((nI k).toInt64 &&& 63) : Int64).toBitVec.smod 64).toNat = k := by decide +kernel
theorem g_shr (x : Int64) {k i : Nat} (hk : k < 64) (hi : k + i < 64) : gbit (x >>> ((nI k).toInt64 &&& 63)) i = gbit x (k + i) := by
  unfold gbit
  rw [Int64.toBitVec_shiftRight]
  show (x.toBitVec.sshiftRight ((((nI k).toInt64 &&& 63) : Int64).toBitVec.smod 64).toNat).getLsbD i = _
  rw [w63 k hk, BitVec.getLsbD_sshiftRight]
  simp [hi, show i < 64 by omega]
theorem g_shl (x : Int64) {k i : Nat} (hk : k < 64) (hi : i < 64) : gbit (x <<< ((nI k).toInt64 &&& 63)) i = (decide (k ≤ i) && gbit x (i - k)) := by
  unfold gbit
  rw [Int64.toBitVec_shiftLeft]
  show (x.toBitVec <<< ((((nI k).toInt64 &&& 63) : Int64).toBitVec.smod 64).toNat).getLsbD i = _
  rw [w63 k hk, BitVec.getLsbD_shiftLeft]
  rcases Nat.lt_or_ge i k with h | h
  · simp [h, Nat.not_le.mpr h]
  · simp [hi, h, Nat.not_lt.mpr h]
theorem g_and (x y : Int64) (i : Nat) : gbit (x &&& y) i = (gbit x i && gbit y i) := by unfold gbit; rw [Int64.toBitVec_and, BitVec.getLsbD_and]
theorem g_or (x y : Int64) (i : Nat) : gbit (x ||| y) i = (gbit x i || gbit y i) := by unfold gbit; rw [Int64.toBitVec_or, BitVec.getLsbD_or]
theorem g_1 : ∀ i, i < 64 → gbit 1 i = decide (i = 0) := by decide +kernel
theorem i_1 : ∀ i, i < 32 → bt 1 i = decide (i = 0) := by decide +kernel
theorem g_ext {x y : Int64} (h : ∀ i, i < 64 → gbit x i = gbit y i) : x = y := Int64.toBitVec_inj.mp (BitVec.eq_of_getLsbD_eq (fun i hi => h i hi))
/-- the class's look at a week -/
theorem cls_bit {x : Int64} {w : Nat} (hw : w < 64) : lg_cmp ((x >>> ((nI w).toInt64 &&& 63)) &&& 1) 1 = 0 ↔ gbit x w = true := by
  have h0 : lg_cmp ((x >>> ((nI w).toInt64 &&& 63)) &&& 1) 1 = 0 ↔ ((x >>> ((nI w).toInt64 &&& 63)) &&& 1) = 1 := by
    unfold lg_cmp
    by_cases h1 : ((x >>> ((nI w).toInt64 &&& 63)) &&& 1) > 1
    · rw [if_pos h1]
      refine ⟨fun h => absurd h (by decide), fun h => ?_⟩
      rw [h] at h1
      exact absurd h1 (by decide)
    · rw [if_neg h1]
      by_cases h2 : ((x >>> ((nI w).toInt64 &&& 63)) &&& 1) = 1
      · simp [h2]
      · simp [h2]
  rw [h0]
  constructor
  · intro h
    have h1 := congrArg (fun z => gbit z 0) h
    simp only [g_and, g_1 0 (by omega)] at h1
    rw [g_shr x hw (by omega)] at h1
    simpa using h1
  · intro h
    refine g_ext (fun i hi => ?_)
    rw [g_and, g_1 i hi]
    by_cases hi0 : i = 0
    · subst hi0
      rw [g_shr x hw (by omega)]
      simp [h]
    · simp [hi0]
/-- the reference's look at a week -/
theorem ref_bit {x : Int32} {r : Nat} (hr : r < 31) : ((x >>> (nI r &&& 31)) &&& 1) = 1 ↔ ibit x r = true := by
  constructor
  · intro h
    have h1 := congrArg (fun z => bt z 0) h
    simp only [b_and, i_1 0 (by omega)] at h1
    rw [b_sshr r (by omega) x (by omega), if_pos (by omega)] at h1
    simpa [ibit_bt] using h1
  · intro h
    refine b_ext (fun i hi => ?_)
    rw [b_and, i_1 i hi]
    by_cases hi0 : i = 0
    · subst hi0
      rw [b_sshr r (by omega) x (by omega), if_pos (by omega)]
      simpa [ibit_bt] using h
    · simp [hi0]
theorem cls_set {x : Int64} {w i : Nat} (hw : w < 64) (hi : i < 64) : gbit (x ||| ((1 : Int64) <<< ((nI w).toInt64 &&& 63))) i = (gbit x i || decide (i = w)) := by
  rw [g_or, g_shl 1 hw hi]
  congr 1
  by_cases h : w ≤ i
  · rw [g_1 (i - w) (by omega)]
    by_cases e : i = w
    · subst e; simp
    · simp [e, show ¬ i - w = 0 by omega]
  · simp [h, show ¬ i = w by omega]
theorem ref_set {x : Int32} {r i : Nat} (hr : r < 31) (hi : i < 32) : ibit (x ||| ((1 : Int32) <<< (nI r &&& 31))) i = (ibit x i || decide (i = r)) := by
  rw [ibit_bt, ibit_bt, b_or, b_shl r (by omega) 1 hi]
  congr 1
  by_cases h : r ≤ i
  · rw [i_1 (i - r) (by omega)]
    by_cases e : i = r
    · subst e; simp
    · simp [e, show ¬ i - r = 0 by omega]
  · simp [h, show ¬ i = r by omega]
/-- week / 31 and week % 31 -/
theorem wk_div {w : Nat} (hw : w < 2 ^ 31) : nI w / 31 = nI (w / 31) := pk_div hw (d := 31) (by omega) (by omega)
theorem wk_rem {w : Nat} (hw : w < 2 ^ 31) : nI w - nI w / 31 * 31 = nI (w % 31) := pk_rem hw (d := 31) (by omega) (by omega)
