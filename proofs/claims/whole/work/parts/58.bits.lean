/-! Integer.bitCount of small numbers, Long.bitCount -/
def pc32 (v : Int32) : Int32 :=
  let x1 := v - (((v.toUInt32 >>> ((1 : Int32).toUInt32 &&& Int32.toUInt32 31)).toInt32) &&& 1431655765)
  let x2 := (x1 &&& 858993459) + (((x1.toUInt32 >>> ((2 : Int32).toUInt32 &&& Int32.toUInt32 31)).toInt32) &&& 858993459)
  let x3 := (x2 + ((x2.toUInt32 >>> ((4 : Int32).toUInt32 &&& Int32.toUInt32 31)).toInt32)) &&& 252645135
  let x4 := x3 + ((x3.toUInt32 >>> ((8 : Int32).toUInt32 &&& Int32.toUInt32 31)).toInt32)
  let x5 := x4 + ((x4.toUInt32 >>> ((16 : Int32).toUInt32 &&& Int32.toUInt32 31)).toInt32)
  x5 &&& 63
theorem pc32_e (S : St) (v : Int32) : fJ6_bitCount_0f7a4 S v = some (pc32 v) := rfl
theorem pc32_d : ∀ a, a < 64 → ∀ b, b < 64 → pc32 (nI (64 * a + b)) = nI (fb_ct (fun i => (64 * a + b).testBit i) 12) := by decide +kernel
theorem pc32_n (S : St) {m : Nat} (h : m < 4096) : fJ6_bitCount_0f7a4 S (nI m) = some (nI (fb_ct (fun i => m.testBit i) 12)) := by
  rw [pc32_e]
  have := pc32_d (m / 64) (by omega) (m % 64) (by omega)
  rw [show 64 * (m / 64) + m % 64 = m by omega] at this
  rw [this]
theorem land_split {a b c d : Nat} (hb : b < 256) (hd : d < 256) : (a * 256 + b) &&& (c * 256 + d) = (a &&& c) * 256 + (b &&& d) := by
  apply Nat.eq_of_testBit_eq
  intro i
  have e : ∀ u v : Nat, v < 256 → (u * 256 + v).testBit i = if i < 8 then v.testBit i else u.testBit (i - 8) := fun u v hv => by
    rw [show u * 256 + v = 2 ^ 8 * u + v by omega, Nat.testBit_two_pow_mul_add u (i := 8) (by omega : v < 2 ^ 8) i]
  rw [Nat.testBit_and, e a b hb, e c d hd, e (a &&& c) (b &&& d) (Nat.lt_of_le_of_lt Nat.and_le_left hb), Nat.testBit_and, Nat.testBit_and]
  split <;> rfl
/-- eight bytes -/
def v8 (b0 b1 b2 b3 b4 b5 b6 b7 : Nat) : Nat := (((((((b7 * 256 + b6) * 256 + b5) * 256 + b4) * 256 + b3) * 256 + b2) * 256 + b1) * 256 + b0)
theorem v8_and {b0 b1 b2 b3 b4 b5 b6 b7 m : Nat} (h0 : b0 < 256) (h1 : b1 < 256) (h2 : b2 < 256) (h3 : b3 < 256) (h4 : b4 < 256) (h5 : b5 < 256) (h6 : b6 < 256) (hm : m < 256) : v8 b0 b1 b2 b3 b4 b5 b6 b7 &&& v8 m m m m m m m m = v8 (b0 &&& m) (b1 &&& m) (b2 &&& m) (b3 &&& m) (b4 &&& m) (b5 &&& m) (b6 &&& m) (b7 &&& m) := by
  unfold v8
  rw [land_split h0 hm, land_split h1 hm, land_split h2 hm, land_split h3 hm, land_split h4 hm, land_split h5 hm, land_split h6 hm]
theorem by_a : ∀ b, b < 256 → ∀ t, t < 2 → ((b / 2 + 128 * t) &&& 85 = (b / 2) &&& 85) ∧ ((b / 2) &&& 85) ≤ b := by decide +kernel
theorem by_g : ∀ b, b < 256 → ∀ t, t < 4 → ((b / 4 + 64 * t) &&& 51 = (b / 4) &&& 51) := by decide +kernel
def bta (b : Nat) : Nat := b - ((b / 2) &&& 85)
def gma (b : Nat) : Nat := (bta b &&& 51) + ((bta b / 4) &&& 51)
theorem by_c : ∀ b, b < 256 → bta b < 256 ∧ gma b ≤ 68 ∧ gma b % 16 ≤ 4 ∧ gma b / 16 ≤ 4 := by decide +kernel
theorem by_d : ∀ b, b < 256 → ∀ t, t < 5 → (gma b + gma b / 16 + 16 * t) &&& 15 = fb_ct (fun i => b.testBit i) 8 := by decide +kernel
theorem by_p : ∀ b, b < 256 → fb_ct (fun i => b.testBit i) 8 ≤ 8 := fun b _ => fb_ct_le _ 8
/-- the steps, over numbers -/
def pcA (x : Nat) : Nat := x - ((x / 2) &&& 6148914691236517205)
def pcB (x : Nat) : Nat := (x &&& 3689348814741910323) + ((x / 4) &&& 3689348814741910323)
def pcC (x : Nat) : Nat := (x + x / 16) &&& 1085102592571150095
theorem pcA_8 {b0 b1 b2 b3 b4 b5 b6 b7 : Nat} (h0 : b0 < 256) (h1 : b1 < 256) (h2 : b2 < 256) (h3 : b3 < 256) (h4 : b4 < 256) (h5 : b5 < 256) (h6 : b6 < 256) (h7 : b7 < 256) : pcA (v8 b0 b1 b2 b3 b4 b5 b6 b7) = v8 (bta b0) (bta b1) (bta b2) (bta b3) (bta b4) (bta b5) (bta b6) (bta b7) := by
  unfold pcA
  have e : v8 b0 b1 b2 b3 b4 b5 b6 b7 / 2 = v8 (b0 / 2 + 128 * (b1 % 2)) (b1 / 2 + 128 * (b2 % 2)) (b2 / 2 + 128 * (b3 % 2)) (b3 / 2 + 128 * (b4 % 2)) (b4 / 2 + 128 * (b5 % 2)) (b5 / 2 + 128 * (b6 % 2)) (b6 / 2 + 128 * (b7 % 2)) (b7 / 2 + 128 * 0) := by unfold v8; omega
  rw [e, show (6148914691236517205 : Nat) = v8 85 85 85 85 85 85 85 85 from rfl, v8_and (by omega) (by omega) (by omega) (by omega) (by omega) (by omega) (by omega) (by omega)]
  rw [(by_a b0 h0 _ (by omega)).1, (by_a b1 h1 _ (by omega)).1, (by_a b2 h2 _ (by omega)).1, (by_a b3 h3 _ (by omega)).1, (by_a b4 h4 _ (by omega)).1, (by_a b5 h5 _ (by omega)).1, (by_a b6 h6 _ (by omega)).1, (by_a b7 h7 _ (by omega)).1]
  have k0 := (by_a b0 h0 0 (by omega)).2
  have k1 := (by_a b1 h1 0 (by omega)).2
  have k2 := (by_a b2 h2 0 (by omega)).2
  have k3 := (by_a b3 h3 0 (by omega)).2
  have k4 := (by_a b4 h4 0 (by omega)).2
  have k5 := (by_a b5 h5 0 (by omega)).2
  have k6 := (by_a b6 h6 0 (by omega)).2
  have k7 := (by_a b7 h7 0 (by omega)).2
  unfold v8 bta
  omega
theorem pcB_8 {b0 b1 b2 b3 b4 b5 b6 b7 : Nat} (h0 : b0 < 256) (h1 : b1 < 256) (h2 : b2 < 256) (h3 : b3 < 256) (h4 : b4 < 256) (h5 : b5 < 256) (h6 : b6 < 256) (h7 : b7 < 256) : pcB (v8 b0 b1 b2 b3 b4 b5 b6 b7) = v8 ((b0 &&& 51) + ((b0 / 4) &&& 51)) ((b1 &&& 51) + ((b1 / 4) &&& 51)) ((b2 &&& 51) + ((b2 / 4) &&& 51)) ((b3 &&& 51) + ((b3 / 4) &&& 51)) ((b4 &&& 51) + ((b4 / 4) &&& 51)) ((b5 &&& 51) + ((b5 / 4) &&& 51)) ((b6 &&& 51) + ((b6 / 4) &&& 51)) ((b7 &&& 51) + ((b7 / 4) &&& 51)) := by
  unfold pcB
  have e : v8 b0 b1 b2 b3 b4 b5 b6 b7 / 4 = v8 (b0 / 4 + 64 * (b1 % 4)) (b1 / 4 + 64 * (b2 % 4)) (b2 / 4 + 64 * (b3 % 4)) (b3 / 4 + 64 * (b4 % 4)) (b4 / 4 + 64 * (b5 % 4)) (b5 / 4 + 64 * (b6 % 4)) (b6 / 4 + 64 * (b7 % 4)) (b7 / 4 + 64 * 0) := by unfold v8; omega
  rw [e, show (3689348814741910323 : Nat) = v8 51 51 51 51 51 51 51 51 from rfl, v8_and h0 h1 h2 h3 h4 h5 h6 (by omega), v8_and (by omega) (by omega) (by omega) (by omega) (by omega) (by omega) (by omega) (by omega)]
  rw [by_g b0 h0 _ (by omega), by_g b1 h1 _ (by omega), by_g b2 h2 _ (by omega), by_g b3 h3 _ (by omega), by_g b4 h4 _ (by omega), by_g b5 h5 _ (by omega), by_g b6 h6 _ (by omega), by_g b7 h7 _ (by omega)]
  unfold v8
  omega
theorem pcC_8 {g0 g1 g2 g3 g4 g5 g6 g7 : Nat} (h0 : g0 ≤ 68 ∧ g0 % 16 ≤ 4 ∧ g0 / 16 ≤ 4) (h1 : g1 ≤ 68 ∧ g1 % 16 ≤ 4 ∧ g1 / 16 ≤ 4) (h2 : g2 ≤ 68 ∧ g2 % 16 ≤ 4 ∧ g2 / 16 ≤ 4) (h3 : g3 ≤ 68 ∧ g3 % 16 ≤ 4 ∧ g3 / 16 ≤ 4) (h4 : g4 ≤ 68 ∧ g4 % 16 ≤ 4 ∧ g4 / 16 ≤ 4) (h5 : g5 ≤ 68 ∧ g5 % 16 ≤ 4 ∧ g5 / 16 ≤ 4) (h6 : g6 ≤ 68 ∧ g6 % 16 ≤ 4 ∧ g6 / 16 ≤ 4) (h7 : g7 ≤ 68 ∧ g7 % 16 ≤ 4 ∧ g7 / 16 ≤ 4) : pcC (v8 g0 g1 g2 g3 g4 g5 g6 g7) = v8 ((g0 + g0 / 16 + 16 * (g1 % 16)) &&& 15) ((g1 + g1 / 16 + 16 * (g2 % 16)) &&& 15) ((g2 + g2 / 16 + 16 * (g3 % 16)) &&& 15) ((g3 + g3 / 16 + 16 * (g4 % 16)) &&& 15) ((g4 + g4 / 16 + 16 * (g5 % 16)) &&& 15) ((g5 + g5 / 16 + 16 * (g6 % 16)) &&& 15) ((g6 + g6 / 16 + 16 * (g7 % 16)) &&& 15) ((g7 + g7 / 16 + 16 * 0) &&& 15) := by
  unfold pcC
  have e : v8 g0 g1 g2 g3 g4 g5 g6 g7 + v8 g0 g1 g2 g3 g4 g5 g6 g7 / 16 = v8 (g0 + g0 / 16 + 16 * (g1 % 16)) (g1 + g1 / 16 + 16 * (g2 % 16)) (g2 + g2 / 16 + 16 * (g3 % 16)) (g3 + g3 / 16 + 16 * (g4 % 16)) (g4 + g4 / 16 + 16 * (g5 % 16)) (g5 + g5 / 16 + 16 * (g6 % 16)) (g6 + g6 / 16 + 16 * (g7 % 16)) (g7 + g7 / 16 + 16 * 0) := by unfold v8; omega
  rw [e, show (1085102592571150095 : Nat) = v8 15 15 15 15 15 15 15 15 from rfl, v8_and (by omega) (by omega) (by omega) (by omega) (by omega) (by omega) (by omega) (by omega)]
