/-! literals beside nI, for simp with omega as its discharger -/
theorem li_le1 {a b : Nat} (ha : (OfNat.ofNat a : Nat) < 2 ^ 31) (hb : b < 2 ^ 31) : ((no_index (OfNat.ofNat a) : Int32) ≤ nI b) ↔ (OfNat.ofNat a : Nat) ≤ b := nI_leI ha hb
theorem li_le2 {a b : Nat} (ha : a < 2 ^ 31) (hb : (OfNat.ofNat b : Nat) < 2 ^ 31) : (nI a ≤ (no_index (OfNat.ofNat b) : Int32)) ↔ a ≤ (OfNat.ofNat b : Nat) := nI_leI ha hb
theorem li_lt1 {a b : Nat} (ha : (OfNat.ofNat a : Nat) < 2 ^ 31) (hb : b < 2 ^ 31) : ((no_index (OfNat.ofNat a) : Int32) < nI b) ↔ (OfNat.ofNat a : Nat) < b := nI_ltI ha hb
theorem li_lt2 {a b : Nat} (ha : a < 2 ^ 31) (hb : (OfNat.ofNat b : Nat) < 2 ^ 31) : (nI a < (no_index (OfNat.ofNat b) : Int32)) ↔ a < (OfNat.ofNat b : Nat) := nI_ltI ha hb
theorem li_eq1 {a b : Nat} (ha : (OfNat.ofNat a : Nat) < 2 ^ 31) (hb : b < 2 ^ 31) : ((no_index (OfNat.ofNat a) : Int32) = nI b) ↔ (OfNat.ofNat a : Nat) = b := nI_eq ha hb
theorem li_eq2 {a b : Nat} (ha : a < 2 ^ 31) (hb : (OfNat.ofNat b : Nat) < 2 ^ 31) : (nI a = (no_index (OfNat.ofNat b) : Int32)) ↔ a = (OfNat.ofNat b : Nat) := nI_eq ha hb
theorem li_add1 (a b : Nat) : (no_index (OfNat.ofNat a) : Int32) + nI b = nI ((OfNat.ofNat a : Nat) + b) := nI_add a b
theorem li_add2 (a b : Nat) : nI a + (no_index (OfNat.ofNat b) : Int32) = nI (a + (OfNat.ofNat b : Nat)) := nI_add a b
theorem li_sub1 {a b : Nat} (h : b ≤ (OfNat.ofNat a : Nat)) : (no_index (OfNat.ofNat a) : Int32) - nI b = nI ((OfNat.ofNat a : Nat) - b) := nI_sub h
theorem li_sub2 {a b : Nat} (h : (OfNat.ofNat b : Nat) ≤ a) : nI a - (no_index (OfNat.ofNat b) : Int32) = nI (a - (OfNat.ofNat b : Nat)) := nI_sub h
theorem li_mul1 (a b : Nat) : (no_index (OfNat.ofNat a) : Int32) * nI b = nI ((OfNat.ofNat a : Nat) * b) := nI_mul a b
theorem li_mul2 (a b : Nat) : nI a * (no_index (OfNat.ofNat b) : Int32) = nI (a * (OfNat.ofNat b : Nat)) := nI_mul a b
theorem li_div2 {a b : Nat} (ha : a < 2 ^ 31) (hb : (OfNat.ofNat b : Nat) < 2 ^ 31) : nI a / (no_index (OfNat.ofNat b) : Int32) = nI (a / (OfNat.ofNat b : Nat)) := nI_div ha hb
theorem li_rI {S : St} {k n i : Nat} (h : (OfNat.ofNat i : Nat) < n) (hn : n < 2 ^ 31) : rI_ S k n (no_index (OfNat.ofNat i) : Int32) = some (aI_ S k (OfNat.ofNat i : Nat)) := rI_n h hn
theorem li_rL {S : St} {k n i : Nat} (h : (OfNat.ofNat i : Nat) < n) (hn : n < 2 ^ 31) : rL_ S k n (no_index (OfNat.ofNat i) : Int32) = some (aL_ S k (OfNat.ofNat i : Nat)) := rL_n h hn
theorem li_rR {g : Nat → Nat} {n i : Nat} (h : (OfNat.ofNat i : Nat) < n) (hn : n < 2 ^ 31) : rR_ n g (no_index (OfNat.ofNat i) : Int32) = some (g (OfNat.ofNat i : Nat)) := rR_n h hn
theorem li_wI {S : St} {k n i : Nat} {v : Int32} (h : (OfNat.ofNat i : Nat) < n) (hn : n < 2 ^ 31) : wI_ S k n (no_index (OfNat.ofNat i) : Int32) v = some (pA_ S k (OfNat.ofNat i : Nat) v) := wI_n h hn
theorem li_wL {S : St} {k n i : Nat} {v : Int64} (h : (OfNat.ofNat i : Nat) < n) (hn : n < 2 ^ 31) : wL_ S k n (no_index (OfNat.ofNat i) : Int32) v = some (pB_ S k (OfNat.ofNat i : Nat) v) := wL_n h hn
theorem m4_ne {a : Nat} (h : a < 2 ^ 31) : (nI a = -4) ↔ False := by
  constructor
  · intro e
    have := nI_pos (n := a) h
    rw [e] at this
    exact this (by decide)
  · exact False.elim
theorem m1_ne {a : Nat} (h : a < 2 ^ 31) : (nI a = -1) ↔ False := by
  constructor
  · intro e
    have := nI_pos (n := a) h
    rw [e] at this
    exact this (by decide)
  · exact False.elim
def zb (b : Bool) : Int32 := if b then 1 else 0
theorem zb_or (b : Bool) : zb b = 0 ∨ zb b = 1 := by cases b <;> simp [zb]
theorem zb_0 {b : Bool} : (zb b = 0) ↔ (b = false) := by cases b <;> simp [zb]
theorem zb_1 {b : Bool} : (zb b = 1) ↔ (b = true) := by cases b <;> simp [zb]
theorem if_zb (c : Prop) [Decidable c] : (if c then (1 : Int32) else 0) = zb (decide c) := by by_cases h : c <;> simp [zb, h]
theorem i10 {c : Prop} [Decidable c] : ((if c then (1 : Int32) else 0) = 0) ↔ ¬ c := by by_cases h : c <;> simp [h]
theorem i11 {c : Prop} [Decidable c] : ((if c then (1 : Int32) else 0) = 1) ↔ c := by by_cases h : c <;> simp [h]
theorem bz_i {c : Prop} [Decidable c] : bz_ (if c then (1 : Int32) else 0) = some (if c then (1 : Int32) else 0) := by by_cases h : c <;> simp [bz_, h]
theorem bz_z (b : Bool) : bz_ (zb b) = some (zb b) := by cases b <;> simp [bz_, zb]
theorem mmin_n {a b : Nat} (ha : a < 2 ^ 31) (hb : b < 2 ^ 31) : mmin_ (nI a) (nI b) = nI (min a b) := by
  unfold mmin_
  by_cases h : b < a
  · rw [if_pos (nI_lt h ha), Nat.min_eq_right (by omega)]
  · rw [if_neg (nI_nlt (by omega) hb), Nat.min_eq_left (by omega)]
theorem mmax_n {a b : Nat} (ha : a < 2 ^ 31) (hb : b < 2 ^ 31) : mmax_ (nI a) (nI b) = nI (max a b) := by
  unfold mmax_
  by_cases h : a < b
  · rw [if_pos (nI_lt h hb), Nat.max_eq_right (by omega)]
  · rw [if_neg (nI_nlt (by omega) ha), Nat.max_eq_left (by omega)]
