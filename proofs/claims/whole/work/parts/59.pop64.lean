/-! ===== lN n to 2^64: shifts, and, or, masks, one bit ===== -/
theorem wb_tb (n : Nat) : (lN n).toBitVec = BitVec.ofNat 64 n := rfl
theorem wb_inj {a b : Int64} (h : a.toBitVec = b.toBitVec) : a = b := Int64.toBitVec_inj.mp h
theorem wb_tn {n : Nat} (h : n < 2 ^ 64) : (lN n).toBitVec.toNat = n := by rw [wb_tb, BitVec.toNat_ofNat, Nat.mod_eq_of_lt h]
theorem wb_of (x : Int64) : ∃ n, n < 2 ^ 64 ∧ x = lN n := ⟨x.toBitVec.toNat, x.toBitVec.isLt, wb_inj (by rw [wb_tb]; simp)⟩
theorem wb_of32 (x : Int32) : ∃ n, n < 2 ^ 32 ∧ x = nI n := ⟨x.toBitVec.toNat, x.toBitVec.isLt, Int32.toBitVec_inj.mp (by show _ = BitVec.ofNat 32 _; simp)⟩
theorem wb_c : ∀ k, k < 64 → ((nI k).toInt64 &&& 63) = lN k := by decide +kernel
theorem wb_cu : ∀ k, k < 64 → ((nI k).toInt64.toUInt64 &&& Int64.toUInt64 63) = UInt64.ofNat k := by decide +kernel
theorem wb_sm : ∀ k, k < 64 → (BitVec.ofNat 64 k).smod 64 = BitVec.ofNat 64 k := by decide +kernel
theorem wb_pw {a b : Nat} (h : a ≤ b) : 2 ^ b = 2 ^ a * 2 ^ (b - a) := by rw [← Nat.pow_add]; congr 1; omega
theorem wb_lt2 {a b : Nat} (h : a < b) : 2 ^ a < 2 ^ b := Nat.pow_lt_pow_right (by decide) h
theorem wb_mod (n : Nat) : lN n = lN (n % 2 ^ 64) := wb_inj (by rw [wb_tb, wb_tb]; apply BitVec.eq_of_toNat_eq; rw [BitVec.toNat_ofNat, BitVec.toNat_ofNat, Nat.mod_mod])
theorem wb_shr {n k : Nat} (hn : n < 2 ^ 64) (hk : k < 64) : ((lN n).toUInt64 >>> ((nI k).toInt64.toUInt64 &&& Int64.toUInt64 63)).toInt64 = lN (n / 2 ^ k) := by
  rw [wb_cu k hk]
  apply wb_inj
  apply BitVec.eq_of_toNat_eq
  show ((lN n).toUInt64 >>> UInt64.ofNat k).toNat = (BitVec.ofNat 64 _).toNat
  have h1 : (UInt64.ofNat k).toNat = k := by
    show (BitVec.ofNat 64 k).toNat = k
    rw [BitVec.toNat_ofNat, Nat.mod_eq_of_lt (by omega)]
  have h2 : (lN n).toUInt64.toNat = n := wb_tn hn
  rw [UInt64.toNat_shiftRight, h1, h2, Nat.mod_eq_of_lt hk, Nat.shiftRight_eq_div_pow, BitVec.toNat_ofNat, Nat.mod_eq_of_lt (Nat.lt_of_le_of_lt (Nat.div_le_self _ _) hn)]
theorem wb_shl (n : Nat) {k : Nat} (hk : k < 64) : lN n <<< ((nI k).toInt64 &&& 63) = lN (n * 2 ^ k) := by
  rw [wb_c k hk]
  apply wb_inj
  rw [Int64.toBitVec_shiftLeft, wb_tb, wb_tb, wb_tb, wb_sm k hk]
  apply BitVec.eq_of_toNat_eq
  rw [BitVec.shiftLeft_eq', BitVec.toNat_shiftLeft, BitVec.toNat_ofNat, BitVec.toNat_ofNat, BitVec.toNat_ofNat, Nat.mod_eq_of_lt (show k < 2 ^ 64 by omega), Nat.shiftLeft_eq, Nat.mul_mod, Nat.mod_mod, ← Nat.mul_mod]
theorem wb_and {a b : Nat} (ha : a < 2 ^ 64) (hb : b < 2 ^ 64) : lN a &&& lN b = lN (a &&& b) := by
  apply wb_inj
  rw [Int64.toBitVec_and, wb_tb, wb_tb, wb_tb]
  apply BitVec.eq_of_toNat_eq
  rw [BitVec.toNat_and, BitVec.toNat_ofNat, BitVec.toNat_ofNat, BitVec.toNat_ofNat, Nat.mod_eq_of_lt ha, Nat.mod_eq_of_lt hb, Nat.mod_eq_of_lt (Nat.and_lt_two_pow _ hb)]
theorem wb_or {a b : Nat} (ha : a < 2 ^ 64) (hb : b < 2 ^ 64) : lN a ||| lN b = lN (a ||| b) := by
  apply wb_inj
  rw [Int64.toBitVec_or, wb_tb, wb_tb, wb_tb]
  apply BitVec.eq_of_toNat_eq
  rw [BitVec.toNat_or, BitVec.toNat_ofNat, BitVec.toNat_ofNat, BitVec.toNat_ofNat, Nat.mod_eq_of_lt ha, Nat.mod_eq_of_lt hb, Nat.mod_eq_of_lt (Nat.or_lt_two_pow ha hb)]
theorem wb_mask {n k : Nat} (hn : n < 2 ^ 64) (hk : k < 64) : lN n &&& lN (2 ^ k - 1) = lN (n % 2 ^ k) := by
  rw [wb_and hn (by have := wb_lt2 hk; omega), Nat.and_two_pow_sub_one_eq_mod]
theorem wb_a1 {n : Nat} (hn : n < 2 ^ 64) : lN n &&& 1 = lN (n % 2) := wb_mask (k := 1) hn (by decide)
theorem wb_bit {n k : Nat} (hn : n < 2 ^ 64) (hk : k < 64) : ((lN n).toUInt64 >>> ((nI k).toInt64.toUInt64 &&& Int64.toUInt64 63)).toInt64 &&& 1 = lN (n / 2 ^ k % 2) := by
  rw [wb_shr hn hk, wb_a1 (Nat.lt_of_le_of_lt (Nat.div_le_self _ _) hn)]
theorem wb_xor {q k : Nat} (hk : k < 63) (h : 2 ^ k ≤ q) (h2 : q < 2 ^ (k + 1)) : lN q ^^^ lN (2 ^ k) = lN (q - 2 ^ k) := by
  obtain ⟨r, rfl⟩ : ∃ r, q = 2 ^ k + r := ⟨q - 2 ^ k, by omega⟩
  have hr : r < 2 ^ k := by rw [Nat.pow_succ] at h2; omega
  have hx : (2 ^ k + r) ^^^ 2 ^ k = r := by
    apply Nat.eq_of_testBit_eq
    intro i
    rw [Nat.testBit_xor, Nat.testBit_two_pow]
    rcases Nat.lt_trichotomy i k with h | h | h
    · rw [Nat.testBit_two_pow_add_gt h]
      simp [show ¬ k = i by omega]
    · subst h
      rw [Nat.testBit_two_pow_add_eq]
      simp
    · have a1 : 2 ^ (k + 1) ≤ 2 ^ i := Nat.pow_le_pow_right (by decide) h
      rw [Nat.testBit_lt_two_pow (show 2 ^ k + r < 2 ^ i by omega), Nat.testBit_lt_two_pow (show r < 2 ^ i by omega)]
      simp [show ¬ k = i by omega]
  have b1 := wb_lt2 (show k + 1 < 64 by omega)
  have b2 := wb_lt2 (show k < 64 by omega)
  apply wb_inj
  rw [Int64.toBitVec_xor, wb_tb, wb_tb, wb_tb]
  apply BitVec.eq_of_toNat_eq
  rw [BitVec.toNat_xor, BitVec.toNat_ofNat, BitVec.toNat_ofNat, BitVec.toNat_ofNat, Nat.mod_eq_of_lt (by omega : 2 ^ k + r < 2 ^ 64), Nat.mod_eq_of_lt b2, hx, Nat.add_sub_cancel_left, Nat.mod_eq_of_lt (by omega)]
/-! Long.bitCount -/
theorem v8_lt {b0 b1 b2 b3 b4 b5 b6 b7 : Nat} (h0 : b0 < 256) (h1 : b1 < 256) (h2 : b2 < 256) (h3 : b3 < 256) (h4 : b4 < 256) (h5 : b5 < 256) (h6 : b6 < 256) (h7 : b7 < 256) : v8 b0 b1 b2 b3 b4 b5 b6 b7 < 2 ^ 64 := by unfold v8; omega
theorem v8_sum {p0 p1 p2 p3 p4 p5 p6 p7 : Nat} (h0 : p0 ≤ 8) (h1 : p1 ≤ 8) (h2 : p2 ≤ 8) (h3 : p3 ≤ 8) (h4 : p4 ≤ 8) (h5 : p5 ≤ 8) (h6 : p6 ≤ 8) (h7 : p7 ≤ 8) :
    (v8 p0 p1 p2 p3 p4 p5 p6 p7 + v8 p0 p1 p2 p3 p4 p5 p6 p7 / 256 = v8 (p0 + p1) (p1 + p2) (p2 + p3) (p3 + p4) (p4 + p5) (p5 + p6) (p6 + p7) p7) := by
  unfold v8; omega
theorem v8_sum2 {p0 p1 p2 p3 p4 p5 p6 p7 : Nat} (h0 : p0 ≤ 16) (h1 : p1 ≤ 16) (h2 : p2 ≤ 16) (h3 : p3 ≤ 16) (h4 : p4 ≤ 16) (h5 : p5 ≤ 16) (h6 : p6 ≤ 16) (h7 : p7 ≤ 16) :
    (v8 p0 p1 p2 p3 p4 p5 p6 p7 + v8 p0 p1 p2 p3 p4 p5 p6 p7 / 65536 = v8 (p0 + p2) (p1 + p3) (p2 + p4) (p3 + p5) (p4 + p6) (p5 + p7) p6 p7) := by
  unfold v8; omega
theorem v8_aux (Y Z : Nat) {a b : Nat} (ha : a ≤ 32) (hb : b ≤ 32) : (Y * 256 + a + (Z * 256 + b)) % 128 = a + b := by omega
theorem v8_sum3 {p0 p1 p2 p3 p4 p5 p6 p7 : Nat} (h0 : p0 ≤ 32) (h1 : p1 ≤ 32) (h2 : p2 ≤ 32) (h3 : p3 ≤ 32) (h4 : p4 ≤ 32) (h5 : p5 ≤ 32) (h6 : p6 ≤ 32) (h7 : p7 ≤ 32) :
    (v8 p0 p1 p2 p3 p4 p5 p6 p7 + v8 p0 p1 p2 p3 p4 p5 p6 p7 / 4294967296) % 128 = p0 + p4 := by
  have e1 : v8 p0 p1 p2 p3 p4 p5 p6 p7 / 4294967296 = ((p7 * 256 + p6) * 256 + p5) * 256 + p4 := by unfold v8; omega
  rw [e1]
  exact v8_aux _ _ h0 h4
theorem lt_lN (x : Nat) {i : Nat} (hi : i < 64) : lt_ (lN x) i = x.testBit i := by
  show (BitVec.ofNat 64 x).getLsbD i = _
  rw [BitVec.getLsbD_ofNat]
  simp [hi]
theorem byte_bit (x k i : Nat) (hi : i < 8) : (x / 2 ^ (8 * k) % 2 ^ 8).testBit i = x.testBit (8 * k + i) := by
  rw [Nat.testBit_mod_two_pow, Nat.testBit_div_two_pow]
  simp [hi, Nat.add_comm]
theorem sum_bytes (x : Nat) : fb_ct (fun i => x.testBit i) 64 = fb_ct (fun i => (x / 2 ^ (8 * 0) % 2 ^ 8).testBit i) 8 + fb_ct (fun i => (x / 2 ^ (8 * 1) % 2 ^ 8).testBit i) 8 + fb_ct (fun i => (x / 2 ^ (8 * 2) % 2 ^ 8).testBit i) 8 + fb_ct (fun i => (x / 2 ^ (8 * 3) % 2 ^ 8).testBit i) 8 + fb_ct (fun i => (x / 2 ^ (8 * 4) % 2 ^ 8).testBit i) 8 + fb_ct (fun i => (x / 2 ^ (8 * 5) % 2 ^ 8).testBit i) 8 + fb_ct (fun i => (x / 2 ^ (8 * 6) % 2 ^ 8).testBit i) 8 + fb_ct (fun i => (x / 2 ^ (8 * 7) % 2 ^ 8).testBit i) 8 := by
  have key : ∀ k, fb_ct (fun i => (x / 2 ^ (8 * k) % 2 ^ 8).testBit i) 8 = fb_ct (fun i => x.testBit (8 * k + i)) 8 := fun k => fb_ct_cong (fun i hi => byte_bit x k i hi)
  have sp : ∀ k n, fb_ct (fun i => x.testBit (8 * k + i)) (8 + n) = fb_ct (fun i => x.testBit (8 * k + i)) 8 + fb_ct (fun i => x.testBit (8 * (k + 1) + i)) n := fun k n => by
    rw [fb_ct_split]
    congr 1
    exact fb_ct_cong (fun i _ => by rw [show 8 * k + (8 + i) = 8 * (k + 1) + i by omega])
  rw [key, key, key, key, key, key, key, key]
  have e0 : fb_ct (fun i => x.testBit i) 64 = fb_ct (fun i => x.testBit (8 * 0 + i)) (8 + 56) := fb_ct_cong (fun i _ => by rw [Nat.mul_zero, Nat.zero_add])
  have e7 : fb_ct (fun i => x.testBit (8 * (6 + 1) + i)) 8 = fb_ct (fun i => x.testBit (8 * 7 + i)) 8 := rfl
  rw [e0, sp 0 56, sp 1 48, sp 2 40, sp 3 32, sp 4 24, sp 5 16, sp 6 8, e7]
  omega
theorem pc64_e (S : St) (v : Int64) : fJ13_bitCount_95d88 S v = some (nI (fb_ct (lt_ v) 64)) := by
  obtain ⟨x, hx, rfl⟩ := wb_of v
  have ex : x = v8 (x / 2 ^ (8 * 0) % 2 ^ 8) (x / 2 ^ (8 * 1) % 2 ^ 8) (x / 2 ^ (8 * 2) % 2 ^ 8) (x / 2 ^ (8 * 3) % 2 ^ 8) (x / 2 ^ (8 * 4) % 2 ^ 8) (x / 2 ^ (8 * 5) % 2 ^ 8) (x / 2 ^ (8 * 6) % 2 ^ 8) (x / 2 ^ (8 * 7) % 2 ^ 8) := by unfold v8; omega
  have es := sum_bytes x
  have et : fb_ct (lt_ (lN x)) 64 = fb_ct (fun i => x.testBit i) 64 := fb_ct_cong (fun i hi => lt_lN x hi)
  rw [et, es]
  have q0 : x / 2 ^ (8 * 0) % 2 ^ 8 < 256 := Nat.mod_lt _ (by decide)
  have q1 : x / 2 ^ (8 * 1) % 2 ^ 8 < 256 := Nat.mod_lt _ (by decide)
  have q2 : x / 2 ^ (8 * 2) % 2 ^ 8 < 256 := Nat.mod_lt _ (by decide)
  have q3 : x / 2 ^ (8 * 3) % 2 ^ 8 < 256 := Nat.mod_lt _ (by decide)
  have q4 : x / 2 ^ (8 * 4) % 2 ^ 8 < 256 := Nat.mod_lt _ (by decide)
  have q5 : x / 2 ^ (8 * 5) % 2 ^ 8 < 256 := Nat.mod_lt _ (by decide)
  have q6 : x / 2 ^ (8 * 6) % 2 ^ 8 < 256 := Nat.mod_lt _ (by decide)
  have q7 : x / 2 ^ (8 * 7) % 2 ^ 8 < 256 := Nat.mod_lt _ (by decide)
  clear es et
  generalize x / 2 ^ (8 * 0) % 2 ^ 8 = b0 at *
  generalize x / 2 ^ (8 * 1) % 2 ^ 8 = b1 at *
  generalize x / 2 ^ (8 * 2) % 2 ^ 8 = b2 at *
  generalize x / 2 ^ (8 * 3) % 2 ^ 8 = b3 at *
  generalize x / 2 ^ (8 * 4) % 2 ^ 8 = b4 at *
  generalize x / 2 ^ (8 * 5) % 2 ^ 8 = b5 at *
  generalize x / 2 ^ (8 * 6) % 2 ^ 8 = b6 at *
  generalize x / 2 ^ (8 * 7) % 2 ^ 8 = b7 at *
  have sh : ∀ {n : Nat} (k : Nat), n < 2 ^ 64 → k < 64 → ((lN n).toUInt64 >>> ((nI k).toInt64.toUInt64 &&& Int64.toUInt64 63)).toInt64 = lN (n / 2 ^ k) := fun k hn hk => wb_shr hn hk
  have c0 := by_c b0 q0
  have c1 := by_c b1 q1
  have c2 := by_c b2 q2
  have c3 := by_c b3 q3
  have c4 := by_c b4 q4
  have c5 := by_c b5 q5
  have c6 := by_c b6 q6
  have c7 := by_c b7 q7
  have eA : pcA x = v8 (bta b0) (bta b1) (bta b2) (bta b3) (bta b4) (bta b5) (bta b6) (bta b7) := by rw [ex]; exact pcA_8 q0 q1 q2 q3 q4 q5 q6 q7
  have eB : pcB (pcA x) = v8 (gma b0) (gma b1) (gma b2) (gma b3) (gma b4) (gma b5) (gma b6) (gma b7) := by rw [eA]; exact pcB_8 c0.1 c1.1 c2.1 c3.1 c4.1 c5.1 c6.1 c7.1
  have eC : pcC (pcB (pcA x)) = v8 (fb_ct (fun i => b0.testBit i) 8) (fb_ct (fun i => b1.testBit i) 8) (fb_ct (fun i => b2.testBit i) 8) (fb_ct (fun i => b3.testBit i) 8) (fb_ct (fun i => b4.testBit i) 8) (fb_ct (fun i => b5.testBit i) 8) (fb_ct (fun i => b6.testBit i) 8) (fb_ct (fun i => b7.testBit i) 8) := by
    rw [eB, pcC_8 c0.2 c1.2 c2.2 c3.2 c4.2 c5.2 c6.2 c7.2]
    rw [by_d b0 q0 _ (by omega), by_d b1 q1 _ (by omega), by_d b2 q2 _ (by omega), by_d b3 q3 _ (by omega), by_d b4 q4 _ (by omega), by_d b5 q5 _ (by omega), by_d b6 q6 _ (by omega), by_d b7 q7 _ (by omega)]
  have lA : pcA x < 2 ^ 64 := by rw [eA]; exact v8_lt c0.1 c1.1 c2.1 c3.1 c4.1 c5.1 c6.1 c7.1
  have lB : pcB (pcA x) < 2 ^ 64 := by rw [eB]; exact v8_lt (by omega) (by omega) (by omega) (by omega) (by omega) (by omega) (by omega) (by omega)
  have p0 := by_p b0 q0
  have p1 := by_p b1 q1
  have p2 := by_p b2 q2
  have p3 := by_p b3 q3
  have p4 := by_p b4 q4
  have p5 := by_p b5 q5
  have p6 := by_p b6 q6
  have p7 := by_p b7 q7
  have sA : lN x - (((lN x).toUInt64 >>> ((1 : Int32).toInt64.toUInt64 &&& Int64.toUInt64 63)).toInt64 &&& 6148914691236517205) = lN (pcA x) := by
    have e : ((lN x).toUInt64 >>> ((1 : Int32).toInt64.toUInt64 &&& Int64.toUInt64 63)).toInt64 = lN (x / 2) := sh 1 hx (by omega)
    rw [e]
    have e2 : lN (x / 2) &&& (6148914691236517205 : Int64) = lN ((x / 2) &&& 6148914691236517205) := fb_andL _ _
    rw [e2, lN_sub (Nat.le_trans Nat.and_le_left (by omega))]
    rfl
  have sB : (lN (pcA x) &&& 3689348814741910323) + (((lN (pcA x)).toUInt64 >>> ((2 : Int32).toInt64.toUInt64 &&& Int64.toUInt64 63)).toInt64 &&& 3689348814741910323) = lN (pcB (pcA x)) := by
    have e : ((lN (pcA x)).toUInt64 >>> ((2 : Int32).toInt64.toUInt64 &&& Int64.toUInt64 63)).toInt64 = lN (pcA x / 4) := sh 2 lA (by omega)
    rw [e]
    have e2 : ∀ y, lN y &&& (3689348814741910323 : Int64) = lN (y &&& 3689348814741910323) := fun y => fb_andL _ _
    rw [e2, e2, lN_add]
    rfl
  have sC : (lN (pcB (pcA x)) + ((lN (pcB (pcA x))).toUInt64 >>> ((4 : Int32).toInt64.toUInt64 &&& Int64.toUInt64 63)).toInt64) &&& 1085102592571150095 = lN (pcC (pcB (pcA x))) := by
    have e : ((lN (pcB (pcA x))).toUInt64 >>> ((4 : Int32).toInt64.toUInt64 &&& Int64.toUInt64 63)).toInt64 = lN (pcB (pcA x) / 16) := sh 4 lB (by omega)
    rw [e, lN_add]
    exact fb_andL _ _
  unfold fJ13_bitCount_95d88
  simp only [b1_s]
  rw [sA, sB, sC, eC]
  generalize fb_ct (fun i => b0.testBit i) 8 = r0 at *
  generalize fb_ct (fun i => b1.testBit i) 8 = r1 at *
  generalize fb_ct (fun i => b2.testBit i) 8 = r2 at *
  generalize fb_ct (fun i => b3.testBit i) 8 = r3 at *
  generalize fb_ct (fun i => b4.testBit i) 8 = r4 at *
  generalize fb_ct (fun i => b5.testBit i) 8 = r5 at *
  generalize fb_ct (fun i => b6.testBit i) 8 = r6 at *
  generalize fb_ct (fun i => b7.testBit i) 8 = r7 at *
  have s8 : ((lN (v8 r0 r1 r2 r3 r4 r5 r6 r7)).toUInt64 >>> ((8 : Int32).toInt64.toUInt64 &&& Int64.toUInt64 63)).toInt64 = lN (v8 r0 r1 r2 r3 r4 r5 r6 r7 / 256) := sh 8 (v8_lt (by omega) (by omega) (by omega) (by omega) (by omega) (by omega) (by omega) (by omega)) (by omega)
  rw [s8, lN_add, v8_sum p0 p1 p2 p3 p4 p5 p6 p7]
  have s16 : ((lN (v8 (r0 + r1) (r1 + r2) (r2 + r3) (r3 + r4) (r4 + r5) (r5 + r6) (r6 + r7) r7)).toUInt64 >>> ((16 : Int32).toInt64.toUInt64 &&& Int64.toUInt64 63)).toInt64 = lN (v8 (r0 + r1) (r1 + r2) (r2 + r3) (r3 + r4) (r4 + r5) (r5 + r6) (r6 + r7) r7 / 65536) := sh 16 (v8_lt (by omega) (by omega) (by omega) (by omega) (by omega) (by omega) (by omega) (by omega)) (by omega)
  rw [s16, lN_add, v8_sum2 (by omega) (by omega) (by omega) (by omega) (by omega) (by omega) (by omega) (by omega)]
  have s32 : ∀ y, y < 2 ^ 64 → ((lN y).toUInt64 >>> ((32 : Int32).toInt64.toUInt64 &&& Int64.toUInt64 63)).toInt64 = lN (y / 4294967296) := fun y hy => sh 32 hy (by omega)
  rw [s32 _ (v8_lt (by omega) (by omega) (by omega) (by omega) (by omega) (by omega) (by omega) (by omega)), lN_add, lN_i]
  have fin : ∀ y, nI y &&& (127 : Int32) = nI (y % 128) := fun y => fa_mask y 7
  rw [fin, v8_sum3 (by omega) (by omega) (by omega) (by omega) (by omega) (by omega) (by omega) (by omega)]
  congr 2
  omega
