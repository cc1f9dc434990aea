/-! The library's bit count is the number of bits. -/
def n64 (x : Int64) : Nat := x.toBitVec.toNat
theorem n64_and (x y : Int64) : n64 (x &&& y) = n64 x &&& n64 y := by
  unfold n64
  rw [Int64.toBitVec_and, BitVec.toNat_and]
theorem n64_add {x y : Int64} (h : n64 x + n64 y < 2 ^ 64) : n64 (x + y) = n64 x + n64 y := by
  unfold n64 at *
  rw [Int64.toBitVec_add, BitVec.toNat_add, Nat.mod_eq_of_lt h]
theorem n64_sub {x y : Int64} (h : n64 y ≤ n64 x) : n64 (x - y) = n64 x - n64 y := by
  have hx : n64 x < 2 ^ 64 := x.toBitVec.isLt
  unfold n64 at *
  rw [Int64.toBitVec_sub, BitVec.toNat_sub]
  omega
theorem n64_shr (x : Int64) (k : UInt64) (n : Nat) (hk : k.toNat = n) (hn : n < 64) : n64 ((x.toUInt64 >>> k).toInt64) = n64 x / 2 ^ n := by
  show (x.toUInt64 >>> k).toNat = _
  rw [UInt64.toNat_shiftRight, hk, Nat.mod_eq_of_lt hn, Nat.shiftRight_eq_div_pow]
  rfl
def sumd : Nat → Nat → Nat
  | 0, _ => 0
  | n + 1, X => pc8 (X % 256) + sumd n (X / 256)
theorem fb_ct_add (p : Nat → Bool) (a : Nat) : ∀ n, fb_ct p (a + n) = fb_ct p a + fb_ct (fun i => p (a + i)) n := by
  intro n
  induction n with
  | zero => rfl
  | succ n ih =>
    show fb_ct p (a + n) + _ = _
    rw [ih, fb_ct_succ, Nat.add_assoc]
    rfl
theorem pc8_ct : ∀ b, b < 256 → pc8 b = fb_ct (fun i => b.testBit i) 8 := by decide +kernel
theorem sumd_ct : ∀ n X, X < 256 ^ n → sumd n X = fb_ct (fun i => X.testBit i) (8 * n) := by
  intro n
  induction n with
  | zero => intro X _; rfl
  | succ n ih =>
    intro X hX
    have hY : X / 256 < 256 ^ n := by
      rw [Nat.pow_succ] at hX
      omega
    rw [show 8 * (n + 1) = 8 + 8 * n by omega, fb_ct_add]
    have e1 : fb_ct (fun i => X.testBit i) 8 = pc8 (X % 256) := by
      rw [pc8_ct _ (Nat.mod_lt _ (by omega))]
      refine fb_ct_cong (fun k hk => ?_)
      show X.testBit k = (X % 2 ^ 8).testBit k
      rw [Nat.testBit_mod_two_pow]
      simp [hk]
    have e2 : fb_ct (fun i => X.testBit (8 + i)) (8 * n) = sumd n (X / 256) := by
      rw [ih _ hY]
      refine fb_ct_cong (fun k hk => ?_)
      show X.testBit (8 + k) = (X / 2 ^ 8).testBit k
      rw [Nat.testBit_div_two_pow, Nat.add_comm]
    rw [e1, e2]
    rfl
/-- the bit count -/
theorem n64_lt (x : Int64) : n64 x < 256 ^ 8 := x.toBitVec.isLt
theorem fold8 (a b c d e f g h : Nat) (ha : a ≤ 8) (hb : b ≤ 8) (hc : c ≤ 8) (hd : d ≤ 8) (he : e ≤ 8) (hf : f ≤ 8) (hg : g ≤ 8) (hh : h ≤ 8) :
    let C := a + 256 * (b + 256 * (c + 256 * (d + 256 * (e + 256 * (f + 256 * (g + 256 * (h + 256 * 0)))))))
    let D := C + C / 2 ^ 8
    let E := D + D / 2 ^ 16
    let F := E + E / 2 ^ 32
    C + C / 2 ^ 8 < 2 ^ 64 ∧ D + D / 2 ^ 16 < 2 ^ 64 ∧ E + E / 2 ^ 32 < 2 ^ 64 ∧ F % 128 = a + (b + (c + (d + (e + (f + (g + (h + 0))))))) := by
  intro C D E F
  have hC : C = a + 256 * (b + 256 * (c + 256 * (d + 256 * (e + 256 * (f + 256 * (g + 256 * (h + 256 * 0))))))) := rfl
  have hD : D = C + C / 256 := rfl
  have hE : E = D + D / 65536 := rfl
  have hF : F = E + E / 4294967296 := rfl
  clear_value C D E F
  have e1 : C / 256 = b + 256 * (c + 256 * (d + 256 * (e + 256 * (f + 256 * (g + 256 * h))))) := by omega
  have e2 : D = (a + b) + 256 * ((b + c) + 256 * ((c + d) + 256 * ((d + e) + 256 * ((e + f) + 256 * ((f + g) + 256 * ((g + h) + 256 * h)))))) := by omega
  have e3 : D / 65536 = (c + d) + 256 * ((d + e) + 256 * ((e + f) + 256 * ((f + g) + 256 * ((g + h) + 256 * h)))) := by omega
  have e4 : E = (a + b + c + d) + 256 * ((b + c + d + e) + 256 * ((c + d + e + f) + 256 * ((d + e + f + g) + 256 * ((e + f + g + h) + 256 * ((f + g + h) + 256 * ((g + h) + 256 * h)))))) := by omega
  have e5 : E / 4294967296 = (e + f + g + h) + 256 * ((f + g + h) + 256 * ((g + h) + 256 * h)) := by omega
  refine ⟨?_, ?_, ?_, ?_⟩ <;> omega
theorem toI32 (x : Int64) : (x.toInt32 &&& 127) = nI (n64 x % 128) := by
  apply Int32.toBitVec_inj.mp
  apply BitVec.eq_of_toNat_eq
  rw [Int32.toBitVec_and, BitVec.toNat_and]
  show (x.toBitVec.signExtend 32).toNat &&& 127 = _
  sorry
