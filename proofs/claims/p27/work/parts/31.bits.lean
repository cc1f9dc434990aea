/-! The library's bit count. -/
theorem and_split (p q r s : Nat) (hp : p < 256) (hr : r < 256) : (p + 256 * q) &&& (r + 256 * s) = (p &&& r) + 256 * (q &&& s) := by
  have e1 : (p + 256 * q) &&& (r + 256 * s) = 256 * (q &&& s) + (p &&& r) := by
    apply Nat.eq_of_testBit_eq
    intro i
    have hpr : p &&& r < 2 ^ 8 := Nat.lt_of_le_of_lt Nat.and_le_left hp
    rw [Nat.testBit_and, Nat.add_comm p, Nat.add_comm r, show (256 : Nat) = 2 ^ 8 from rfl, Nat.testBit_two_pow_mul_add q hp, Nat.testBit_two_pow_mul_add s hr, Nat.testBit_two_pow_mul_add (q &&& s) hpr]
    by_cases h : i < 8
    · simp [h, Nat.testBit_and]
    · simp [h, Nat.testBit_and]
  omega
def s1 (b : Nat) : Nat := b - ((b / 2) &&& 85)
def s2 (a : Nat) : Nat := (a &&& 51) + ((a / 4) &&& 51)
def s3 (p : Nat) : Nat := (p + p / 16) &&& 15
def pc8 (b : Nat) : Nat := s3 (s2 (s1 b))
theorem d1 : ∀ b, b < 256 → ∀ t, t < 2 → (b / 2 + 128 * t) &&& 85 = (b / 2) &&& 85 := by decide +kernel
theorem d1' : ∀ b, b < 256 → ((b / 2) &&& 85) ≤ b ∧ s1 b < 256 := by decide +kernel
theorem d2 : ∀ a, a < 256 → ∀ t, t < 4 → (a / 4 + 64 * t) &&& 51 = (a / 4) &&& 51 := by decide +kernel
theorem d2' : ∀ b, b < 256 → s2 (s1 b) ≤ 68 ∧ s2 (s1 b) % 16 ≤ 4 := by decide +kernel
theorem d3 : ∀ p, p ≤ 68 → ∀ t, t ≤ 4 → (p + p / 16 + 16 * t) &&& 15 = (p + p / 16) &&& 15 := by decide +kernel
theorem d4 : ∀ b, b < 256 → pc8 b ≤ 8 := by decide +kernel
/-- masks of n bytes -/
def mk (v : Nat) : Nat → Nat
  | 0 => 0
  | n + 1 => v + 256 * mk v n
def S1 (n X : Nat) : Nat := X - ((X / 2) &&& mk 85 n)
def S2 (n X : Nat) : Nat := (X &&& mk 51 n) + ((X / 4) &&& mk 51 n)
def S3 (n X : Nat) : Nat := (X + X / 16) &&& mk 15 n
theorem S1_s (n b Y : Nat) (hb : b < 256) (hY : ((Y / 2) &&& mk 85 n) ≤ Y) : S1 (n + 1) (b + 256 * Y) = s1 b + 256 * S1 n Y ∧ (((b + 256 * Y) / 2) &&& mk 85 (n + 1)) ≤ b + 256 * Y := by
  have e : (b + 256 * Y) / 2 = (b / 2 + 128 * (Y % 2)) + 256 * (Y / 2) := by omega
  have a : ((b + 256 * Y) / 2) &&& mk 85 (n + 1) = ((b / 2) &&& 85) + 256 * ((Y / 2) &&& mk 85 n) := by
    rw [e]
    show _ &&& (85 + 256 * mk 85 n) = _
    rw [and_split _ _ _ _ (by omega) (by omega), d1 b hb (Y % 2) (by omega)]
  have h1 := (d1' b hb).1
  refine ⟨?_, by rw [a]; omega⟩
  unfold S1 s1
  rw [a]
  omega
theorem S2_s (n a Y : Nat) (ha : a < 256) : S2 (n + 1) (a + 256 * Y) = s2 a + 256 * S2 n Y := by
  have e : (a + 256 * Y) / 4 = (a / 4 + 64 * (Y % 4)) + 256 * (Y / 4) := by omega
  unfold S2 s2
  show ((a + 256 * Y) &&& (51 + 256 * mk 51 n)) + (((a + 256 * Y) / 4) &&& (51 + 256 * mk 51 n)) = _
  rw [e, and_split _ _ _ _ ha (by omega), and_split _ _ _ _ (by omega) (by omega), d2 a ha (Y % 4) (by omega)]
  omega
theorem S3_s (n p Y : Nat) (hp : p ≤ 68) (hY : Y % 16 ≤ 4) : S3 (n + 1) (p + 256 * Y) = s3 p + 256 * S3 n Y := by
  have e : p + 256 * Y + (p + 256 * Y) / 16 = (p + p / 16 + 16 * (Y % 16)) + 256 * (Y + Y / 16) := by omega
  unfold S3 s3
  show (p + 256 * Y + (p + 256 * Y) / 16) &&& (15 + 256 * mk 15 n) = _
  rw [e, and_split _ _ _ _ (by omega) (by omega), d3 p hp (Y % 16) hY]
/-- the bytes' counts -/
def pcs : Nat → Nat → Nat
  | 0, _ => 0
  | n + 1, X => pc8 (X % 256) + 256 * pcs n (X / 256)
theorem swar : ∀ n X, X < 256 ^ n → ((X / 2) &&& mk 85 n) ≤ X ∧ (S2 n (S1 n X)) % 16 ≤ 4 ∧ S3 n (S2 n (S1 n X)) = pcs n X := by
  intro n
  induction n with
  | zero =>
    intro X hX
    have : X = 0 := by
      rw [Nat.pow_zero] at hX
      omega
    subst this
    decide
  | succ n ih =>
    intro X hX
    have hd : X = X % 256 + 256 * (X / 256) := by omega
    have hY : X / 256 < 256 ^ n := by
      rw [Nat.pow_succ] at hX
      omega
    obtain ⟨y1, y2, y3⟩ := ih (X / 256) hY
    have hb : X % 256 < 256 := Nat.mod_lt _ (by omega)
    obtain ⟨x1, x2⟩ := S1_s n (X % 256) (X / 256) hb y1
    have x3 := S2_s n (s1 (X % 256)) (S1 n (X / 256)) (d1' _ hb).2
    obtain ⟨z1, z2⟩ := d2' _ hb
    rw [← hd] at x1 x2
    refine ⟨x2, ?_, ?_⟩
    · rw [x1, x3]
      omega
    · rw [x1, x3, S3_s n _ _ z1 y2, y3]
      rfl

def n64 (x : Int64) : Nat := x.toBitVec.toNat
theorem n64_and (x y : Int64) : n64 (x &&& y) = n64 x &&& n64 y := by
  unfold n64
  rw [Int64.toBitVec_and, BitVec.toNat_and]
theorem n64_add {x y : Int64} (h : n64 x + n64 y < 2 ^ 64) : n64 (x + y) = n64 x + n64 y := by
  unfold n64 at *
  rw [Int64.toBitVec_add, BitVec.toNat_add, Nat.mod_eq_of_lt h]
theorem n64_sub {x y : Int64} (h : n64 y ≤ n64 x) : n64 (x - y) = n64 x - n64 y := by
  have hx : n64 x < 2 ^ 64 := x.toBitVec.isLt
  unfold n64 at *
  rw [Int64.toBitVec_sub, BitVec.toNat_sub]
  omega
theorem n64_shr (x : Int64) (k : UInt64) (n : Nat) (hk : k.toNat = n) (hn : n < 64) : n64 ((x.toUInt64 >>> k).toInt64) = n64 x / 2 ^ n := by
  show (x.toUInt64 >>> k).toNat = _
  rw [UInt64.toNat_shiftRight, hk, Nat.mod_eq_of_lt hn, Nat.shiftRight_eq_div_pow]
  rfl
def sumd : Nat → Nat → Nat
  | 0, _ => 0
  | n + 1, X => pc8 (X % 256) + sumd n (X / 256)
theorem fb_ct_add (p : Nat → Bool) (a : Nat) : ∀ n, fb_ct p (a + n) = fb_ct p a + fb_ct (fun i => p (a + i)) n := by
  intro n
  induction n with
  | zero => rfl
  | succ n ih =>
    show fb_ct p (a + n) + _ = _
    rw [ih, fb_ct_succ, Nat.add_assoc]
    rfl
theorem pc8_ct : ∀ b, b < 256 → pc8 b = fb_ct (fun i => b.testBit i) 8 := by decide +kernel
theorem sumd_ct : ∀ n X, X < 256 ^ n → sumd n X = fb_ct (fun i => X.testBit i) (8 * n) := by
  intro n
  induction n with
  | zero => intro X _; rfl
  | succ n ih =>
    intro X hX
    have hY : X / 256 < 256 ^ n := by
      rw [Nat.pow_succ] at hX
      omega
    rw [show 8 * (n + 1) = 8 + 8 * n by omega, fb_ct_add]
    have e1 : fb_ct (fun i => X.testBit i) 8 = pc8 (X % 256) := by
      rw [pc8_ct _ (Nat.mod_lt _ (by omega))]
      refine fb_ct_cong (fun k hk => ?_)
      show X.testBit k = (X % 2 ^ 8).testBit k
      rw [Nat.testBit_mod_two_pow]
      simp [hk]
    have e2 : fb_ct (fun i => X.testBit (8 + i)) (8 * n) = sumd n (X / 256) := by
      rw [ih _ hY]
      refine fb_ct_cong (fun k hk => ?_)
      show X.testBit (8 + k) = (X / 2 ^ 8).testBit k
      rw [Nat.testBit_div_two_pow, Nat.add_comm]
    rw [e1, e2]
    rfl
/-- the bit count -/
theorem n64_lt (x : Int64) : n64 x < 256 ^ 8 := x.toBitVec.isLt
theorem fo_d {a Q : Nat} (ha : a ≤ 255) : (a + 256 * Q) / 256 = Q := by omega
theorem fo_b {a Q X : Nat} (ha : a ≤ 8) (hQ : Q ≤ X) : a + 256 * Q ≤ 8 + 256 * X := by omega
theorem fo_2 {a b Q : Nat} (ha : a ≤ 255) (hb : b ≤ 255) : (a + 256 * (b + 256 * Q)) / 65536 = Q := by omega
theorem fo_4 {a b c d Q : Nat} (ha : a ≤ 255) (hb : b ≤ 255) (hc : c ≤ 255) (hd : d ≤ 255) : (a + 256 * (b + 256 * (c + 256 * (d + 256 * Q)))) / 4294967296 = Q := by
  have e1 := fo_2 (Q := c + 256 * (d + 256 * Q)) ha hb
  have e2 := fo_2 (Q := Q) hc hd
  generalize a + 256 * (b + 256 * (c + 256 * (d + 256 * Q))) = X at *
  generalize c + 256 * (d + 256 * Q) = Y at *
  omega
theorem fo_a (a Q b R : Nat) : (a + 256 * Q) + (b + 256 * R) = (a + b) + 256 * (Q + R) := by omega
theorem fo_m {s Q : Nat} : (s + 256 * Q) % 128 = s % 128 := by omega
theorem fo_1b {a : Nat} (ha : a ≤ 8) : a ≤ 255 := by omega
theorem fo_2b {a b : Nat} (ha : a ≤ 8) (hb : b ≤ 8) : a + b ≤ 255 := by omega
theorem fo_4b {a b c d : Nat} (ha : a ≤ 8) (hb : b ≤ 8) (hc : c ≤ 8) (hd : d ≤ 8) : a + b + (c + d) ≤ 255 := by omega
theorem fo_8b {s t : Nat} (hs : s ≤ 32) (ht : t ≤ 32) : (s + t) % 128 = s + t := by omega
theorem fo_32 {a b c d : Nat} (ha : a ≤ 8) (hb : b ≤ 8) (hc : c ≤ 8) (hd : d ≤ 8) : a + b + (c + d) ≤ 32 := by omega
theorem fo_c {C D E : Nat} (bC : C ≤ 578721382704613384) (hD : D = C + C / 256) (hE : E = D + D / 65536) : C + C / 256 < 18446744073709551616 ∧ D + D / 65536 < 18446744073709551616 ∧ E + E / 4294967296 < 18446744073709551616 := by
  have h1 : D ≤ 1157442765409226768 := by omega
  have h2 : E ≤ 2314885530818453536 := by omega
  omega
theorem fo_s (a b c d e f g h : Nat) : a + b + (c + d) + (e + f + (g + h)) = a + (b + (c + (d + (e + (f + (g + (h + 0))))))) := by
  simp only [Nat.add_assoc, Nat.add_zero]
theorem fo_k (g X h : Nat) : g + 256 * X + h = g + h + 256 * X := by omega
theorem fold8 (a b c d e f g h : Nat) (ha : a ≤ 8) (hb : b ≤ 8) (hc : c ≤ 8) (hd : d ≤ 8) (he : e ≤ 8) (hf : f ≤ 8) (hg : g ≤ 8) (hh : h ≤ 8)
    {C D E F : Nat} (hC : C = a + 256 * (b + 256 * (c + 256 * (d + 256 * (e + 256 * (f + 256 * (g + 256 * (h + 256 * 0)))))))) (hD : D = C + C / 256) (hE : E = D + D / 65536) (hF : F = E + E / 4294967296) :
    C + C / 256 < 18446744073709551616 ∧ D + D / 65536 < 18446744073709551616 ∧ E + E / 4294967296 < 18446744073709551616 ∧ F % 128 = a + (b + (c + (d + (e + (f + (g + (h + 0))))))) := by
  have bC : C ≤ 578721382704613384 := by
    rw [hC]
    exact fo_b ha (fo_b hb (fo_b hc (fo_b hd (fo_b he (fo_b hf (fo_b hg (fo_b hh (Nat.le_refl 0))))))))
  obtain ⟨x1, x2, x3⟩ := fo_c bC hD hE
  refine ⟨x1, x2, x3, ?_⟩
  clear x1 x2 x3 bC
  have e1 : C / 256 = b + 256 * (c + 256 * (d + 256 * (e + 256 * (f + 256 * (g + 256 * (h + 256 * 0)))))) := by
    rw [hC]
    exact fo_d (fo_1b ha)
  have e2 : D = (a + b) + 256 * ((b + c) + 256 * ((c + d) + 256 * ((d + e) + 256 * ((e + f) + 256 * ((f + g) + 256 * ((g + h) + 256 * (h + 256 * 0))))))) := by
    rw [hD, e1, hC]
    simp only [fo_a, Nat.mul_zero, Nat.add_zero]
    simp only [fo_k]
  have e3 : D / 65536 = (c + d) + 256 * ((d + e) + 256 * ((e + f) + 256 * ((f + g) + 256 * ((g + h) + 256 * (h + 256 * 0))))) := by
    rw [e2]
    exact fo_2 (fo_2b ha hb) (fo_2b hb hc)
  have e4 : E = (a + b + (c + d)) + 256 * ((b + c + (d + e)) + 256 * ((c + d + (e + f)) + 256 * ((d + e + (f + g)) + 256 * ((e + f + (g + h)) + 256 * ((f + g + h) + 256 * ((g + h) + 256 * (h + 256 * 0))))))) := by
    rw [hE, e3, e2]
    simp only [fo_a, Nat.mul_zero, Nat.add_zero]
    simp only [fo_k]
  have e5 : E / 4294967296 = (e + f + (g + h)) + 256 * ((f + g + h) + 256 * ((g + h) + 256 * (h + 256 * 0))) := by
    rw [e4]
    exact fo_4 (fo_4b ha hb hc hd) (fo_4b hb hc hd he) (fo_4b hc hd he hf) (fo_4b hd he hf hg)
  rw [hF, e5, e4, fo_a, fo_m, fo_8b (fo_32 ha hb hc hd) (fo_32 he hf hg hh), fo_s]
theorem toI32 (x : Int64) : (x.toInt32 &&& 127) = nI (n64 x % 128) := by
  apply Int32.toBitVec_inj.mp
  apply BitVec.eq_of_toNat_eq
  rw [Int32.toBitVec_and, BitVec.toNat_and]
  have e1 : x.toInt32.toBitVec.toNat = n64 x % 2 ^ 32 := by
    rw [Int64.toBitVec_toInt32, BitVec.toNat_signExtend]
    unfold n64
    simp
  rw [e1]
  show (n64 x % 2 ^ 32) &&& (2 ^ 7 - 1) = _
  rw [Nat.and_two_pow_sub_one_eq_mod]
  show _ = (Int32.ofNat (n64 x % 128)).toBitVec.toNat
  rw [Int32.toBitVec_ofNat', BitVec.toNat_ofNat]
  omega
theorem m85 : n64 6148914691236517205 = mk 85 8 := by decide +kernel
theorem m51 : n64 3689348814741910323 = mk 51 8 := by decide +kernel
theorem m15 : n64 1085102592571150095 = mk 15 8 := by decide +kernel
theorem pcs8 (X : Nat) : pcs 8 X = pc8 (X % 256) + 256 * (pc8 (X / 256 % 256) + 256 * (pc8 (X / 256 / 256 % 256) + 256 * (pc8 (X / 256 / 256 / 256 % 256) + 256 * (pc8 (X / 256 / 256 / 256 / 256 % 256) + 256 * (pc8 (X / 256 / 256 / 256 / 256 / 256 % 256) + 256 * (pc8 (X / 256 / 256 / 256 / 256 / 256 / 256 % 256) + 256 * (pc8 (X / 256 / 256 / 256 / 256 / 256 / 256 / 256 % 256) + 256 * 0))))))) := by
  simp only [pcs]
theorem sumd8 (X : Nat) : sumd 8 X = pc8 (X % 256) + (pc8 (X / 256 % 256) + (pc8 (X / 256 / 256 % 256) + (pc8 (X / 256 / 256 / 256 % 256) + (pc8 (X / 256 / 256 / 256 / 256 % 256) + (pc8 (X / 256 / 256 / 256 / 256 / 256 % 256) + (pc8 (X / 256 / 256 / 256 / 256 / 256 / 256 % 256) + (pc8 (X / 256 / 256 / 256 / 256 / 256 / 256 / 256 % 256) + 0))))))) := by
  simp only [sumd]
theorem bc_main {x a b c d e f : Int64}
    (ha : a = x - ((x.toUInt64 >>> ((1 : Int32).toInt64.toUInt64 &&& Int64.toUInt64 63)).toInt64 &&& 6148914691236517205))
    (hb : b = (a &&& 3689348814741910323) + ((a.toUInt64 >>> ((2 : Int32).toInt64.toUInt64 &&& Int64.toUInt64 63)).toInt64 &&& 3689348814741910323))
    (hc : c = (b + (b.toUInt64 >>> ((4 : Int32).toInt64.toUInt64 &&& Int64.toUInt64 63)).toInt64) &&& 1085102592571150095)
    (hd : d = c + (c.toUInt64 >>> ((8 : Int32).toInt64.toUInt64 &&& Int64.toUInt64 63)).toInt64)
    (he : e = d + (d.toUInt64 >>> ((16 : Int32).toInt64.toUInt64 &&& Int64.toUInt64 63)).toInt64)
    (hf : f = e + (e.toUInt64 >>> ((32 : Int32).toInt64.toUInt64 &&& Int64.toUInt64 63)).toInt64) : f.toInt32 &&& 127 = nI (fb_ct (gbit x) 64) := by
  obtain ⟨w1, w2, w3⟩ := swar 8 (n64 x) (n64_lt x)
  have s1' : n64 ((x.toUInt64 >>> ((1 : Int32).toInt64.toUInt64 &&& Int64.toUInt64 63)).toInt64 &&& 6148914691236517205) = (n64 x / 2) &&& mk 85 8 := by
    rw [n64_and, n64_shr x _ 1 (by decide) (by omega), m85]
  have na : n64 a = S1 8 (n64 x) := by
    rw [ha, n64_sub (by rw [s1']; exact w1), s1']
    rfl
  have l1 : n64 a &&& mk 51 8 ≤ mk 51 8 := Nat.and_le_right
  have l2 : (n64 a / 4) &&& mk 51 8 ≤ mk 51 8 := Nat.and_le_right
  have l3 : mk 51 8 = 3689348814741910323 := by decide +kernel
  have s2' : n64 ((a.toUInt64 >>> ((2 : Int32).toInt64.toUInt64 &&& Int64.toUInt64 63)).toInt64 &&& 3689348814741910323) = (n64 a / 4) &&& mk 51 8 := by
    rw [n64_and, n64_shr a _ 2 (by decide) (by omega), m51]
  have s2'' : n64 (a &&& 3689348814741910323) = n64 a &&& mk 51 8 := by rw [n64_and, m51]
  have nb : n64 b = S2 8 (n64 a) := by
    rw [hb, n64_add (by rw [s2', s2'']; omega), s2', s2'']
    rfl
  have lb : n64 b ≤ 2 * 3689348814741910323 := by
    rw [nb]
    unfold S2
    omega
  have s3' : n64 ((b.toUInt64 >>> ((4 : Int32).toInt64.toUInt64 &&& Int64.toUInt64 63)).toInt64) = n64 b / 16 := n64_shr b _ 4 (by decide) (by omega)
  have nc : n64 c = S3 8 (n64 b) := by
    rw [hc, n64_and, n64_add (by rw [s3']; omega), s3', m15]
    rfl
  have ec : n64 c = pcs 8 (n64 x) := by rw [nc, nb, na]; exact w3
  have q := fun k => d4 (k % 256) (Nat.mod_lt _ (by omega))
  have s4' : n64 ((c.toUInt64 >>> ((8 : Int32).toInt64.toUInt64 &&& Int64.toUInt64 63)).toInt64) = n64 c / 256 := n64_shr c _ 8 (by decide) (by omega)
  have s5' : n64 ((d.toUInt64 >>> ((16 : Int32).toInt64.toUInt64 &&& Int64.toUInt64 63)).toInt64) = n64 d / 65536 := n64_shr d _ 16 (by decide) (by omega)
  have s6' : n64 ((e.toUInt64 >>> ((32 : Int32).toInt64.toUInt64 &&& Int64.toUInt64 63)).toInt64) = n64 e / 4294967296 := n64_shr e _ 32 (by decide) (by omega)
  have ec' : n64 c = pc8 (n64 x % 256) + 256 * (pc8 (n64 x / 256 % 256) + 256 * (pc8 (n64 x / 256 / 256 % 256) + 256 * (pc8 (n64 x / 256 / 256 / 256 % 256) + 256 * (pc8 (n64 x / 256 / 256 / 256 / 256 % 256) + 256 * (pc8 (n64 x / 256 / 256 / 256 / 256 / 256 % 256) + 256 * (pc8 (n64 x / 256 / 256 / 256 / 256 / 256 / 256 % 256) + 256 * (pc8 (n64 x / 256 / 256 / 256 / 256 / 256 / 256 / 256 % 256) + 256 * 0))))))) := ec.trans (pcs8 _)
  obtain ⟨f1, -, -, -⟩ := fold8 _ _ _ _ _ _ _ _ (q _) (q _) (q _) (q _) (q _) (q _) (q _) (q _) ec' rfl rfl rfl
  have nd : n64 d = n64 c + n64 c / 256 := by rw [hd, n64_add (by rw [s4']; exact f1), s4']
  obtain ⟨-, f2, -, -⟩ := fold8 _ _ _ _ _ _ _ _ (q _) (q _) (q _) (q _) (q _) (q _) (q _) (q _) ec' nd rfl rfl
  have ne : n64 e = n64 d + n64 d / 65536 := by rw [he, n64_add (by rw [s5']; exact f2), s5']
  obtain ⟨-, -, f3, -⟩ := fold8 _ _ _ _ _ _ _ _ (q _) (q _) (q _) (q _) (q _) (q _) (q _) (q _) ec' nd ne rfl
  have nf : n64 f = n64 e + n64 e / 4294967296 := by rw [hf, n64_add (by rw [s6']; exact f3), s6']
  obtain ⟨-, -, -, f4⟩ := fold8 _ _ _ _ _ _ _ _ (q _) (q _) (q _) (q _) (q _) (q _) (q _) (q _) ec' nd ne nf
  have e8 := sumd_ct 8 (n64 x) (n64_lt x)
  rw [sumd8, show 8 * 8 = 64 from rfl] at e8
  rw [toI32, f4, e8]
  exact congrArg nI (fb_ct_cong (fun i _ => rfl))
theorem bitCount_eq (x : Int64) : pf_Lng_bitCount x = nI (fb_ct (gbit x) 64) := bc_main rfl rfl rfl rfl rfl rfl

