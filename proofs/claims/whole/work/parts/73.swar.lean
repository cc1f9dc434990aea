/-! The bits of a long, counted by bytes. -/
theorem and_split (p q r s : Nat) (hp : p < 256) (hr : r < 256) : (p + 256 * q) &&& (r + 256 * s) = (p &&& r) + 256 * (q &&& s) := by
  have e1 : (p + 256 * q) &&& (r + 256 * s) = 256 * (q &&& s) + (p &&& r) := by
    apply Nat.eq_of_testBit_eq
    intro i
    have hpr : p &&& r < 2 ^ 8 := Nat.lt_of_le_of_lt Nat.and_le_left hp
    rw [Nat.testBit_and, Nat.add_comm p, Nat.add_comm r, show (256 : Nat) = 2 ^ 8 from rfl, Nat.testBit_two_pow_mul_add q hp, Nat.testBit_two_pow_mul_add s hr, Nat.testBit_two_pow_mul_add (q &&& s) hpr]
    by_cases h : i < 8
    · simp [h, Nat.testBit_and]
    · simp [h, Nat.testBit_and]
  omega
def s1 (b : Nat) : Nat := b - ((b / 2) &&& 85)
def s2 (a : Nat) : Nat := (a &&& 51) + ((a / 4) &&& 51)
def s3 (p : Nat) : Nat := (p + p / 16) &&& 15
def pc8 (b : Nat) : Nat := s3 (s2 (s1 b))
theorem d1 : ∀ b, b < 256 → ∀ t, t < 2 → (b / 2 + 128 * t) &&& 85 = (b / 2) &&& 85 := by decide +kernel
theorem d1' : ∀ b, b < 256 → ((b / 2) &&& 85) ≤ b ∧ s1 b < 256 := by decide +kernel
theorem d2 : ∀ a, a < 256 → ∀ t, t < 4 → (a / 4 + 64 * t) &&& 51 = (a / 4) &&& 51 := by decide +kernel
theorem d2' : ∀ b, b < 256 → s2 (s1 b) ≤ 68 ∧ s2 (s1 b) % 16 ≤ 4 := by decide +kernel
theorem d3 : ∀ p, p ≤ 68 → ∀ t, t ≤ 4 → (p + p / 16 + 16 * t) &&& 15 = (p + p / 16) &&& 15 := by decide +kernel
theorem d4 : ∀ b, b < 256 → pc8 b ≤ 8 := by decide +kernel
/-- masks of n bytes -/
def mk (v : Nat) : Nat → Nat
  | 0 => 0
  | n + 1 => v + 256 * mk v n
def S1 (n X : Nat) : Nat := X - ((X / 2) &&& mk 85 n)
def S2 (n X : Nat) : Nat := (X &&& mk 51 n) + ((X / 4) &&& mk 51 n)
def S3 (n X : Nat) : Nat := (X + X / 16) &&& mk 15 n
theorem S1_s (n b Y : Nat) (hb : b < 256) (hY : ((Y / 2) &&& mk 85 n) ≤ Y) : S1 (n + 1) (b + 256 * Y) = s1 b + 256 * S1 n Y ∧ (((b + 256 * Y) / 2) &&& mk 85 (n + 1)) ≤ b + 256 * Y := by
  have e : (b + 256 * Y) / 2 = (b / 2 + 128 * (Y % 2)) + 256 * (Y / 2) := by omega
  have a : ((b + 256 * Y) / 2) &&& mk 85 (n + 1) = ((b / 2) &&& 85) + 256 * ((Y / 2) &&& mk 85 n) := by
    rw [e]
    show _ &&& (85 + 256 * mk 85 n) = _
    rw [and_split _ _ _ _ (by omega) (by omega), d1 b hb (Y % 2) (by omega)]
  have h1 := (d1' b hb).1
  refine ⟨?_, by rw [a]; omega⟩
  unfold S1 s1
  rw [a]
  omega
theorem S2_s (n a Y : Nat) (ha : a < 256) : S2 (n + 1) (a + 256 * Y) = s2 a + 256 * S2 n Y := by
  have e : (a + 256 * Y) / 4 = (a / 4 + 64 * (Y % 4)) + 256 * (Y / 4) := by omega
  unfold S2 s2
  show ((a + 256 * Y) &&& (51 + 256 * mk 51 n)) + (((a + 256 * Y) / 4) &&& (51 + 256 * mk 51 n)) = _
  rw [e, and_split _ _ _ _ ha (by omega), and_split _ _ _ _ (by omega) (by omega), d2 a ha (Y % 4) (by omega)]
  omega
theorem S3_s (n p Y : Nat) (hp : p ≤ 68) (hY : Y % 16 ≤ 4) : S3 (n + 1) (p + 256 * Y) = s3 p + 256 * S3 n Y := by
  have e : p + 256 * Y + (p + 256 * Y) / 16 = (p + p / 16 + 16 * (Y % 16)) + 256 * (Y + Y / 16) := by omega
  unfold S3 s3
  show (p + 256 * Y + (p + 256 * Y) / 16) &&& (15 + 256 * mk 15 n) = _
  rw [e, and_split _ _ _ _ (by omega) (by omega), d3 p hp (Y % 16) hY]
/-- the bytes' counts -/
def pcs : Nat → Nat → Nat
  | 0, _ => 0
  | n + 1, X => pc8 (X % 256) + 256 * pcs n (X / 256)
theorem swar : ∀ n X, X < 256 ^ n → ((X / 2) &&& mk 85 n) ≤ X ∧ (S2 n (S1 n X)) % 16 ≤ 4 ∧ S3 n (S2 n (S1 n X)) = pcs n X := by
  intro n
  induction n with
  | zero =>
    intro X hX
    have : X = 0 := by
      rw [Nat.pow_zero] at hX
      omega
    subst this
    decide
  | succ n ih =>
    intro X hX
    have hd : X = X % 256 + 256 * (X / 256) := by omega
    have hY : X / 256 < 256 ^ n := by
      rw [Nat.pow_succ] at hX
      omega
    obtain ⟨y1, y2, y3⟩ := ih (X / 256) hY
    have hb : X % 256 < 256 := Nat.mod_lt _ (by omega)
    obtain ⟨x1, x2⟩ := S1_s n (X % 256) (X / 256) hb y1
    have x3 := S2_s n (s1 (X % 256)) (S1 n (X / 256)) (d1' _ hb).2
    obtain ⟨z1, z2⟩ := d2' _ hb
    rw [← hd] at x1 x2
    refine ⟨x2, ?_, ?_⟩
    · rw [x1, x3]
      omega
    · rw [x1, x3, S3_s n _ _ z1 y2, y3]
      rfl
