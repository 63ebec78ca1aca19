/-! the reference's next token -/
section LEXM
variable {S : St} {y : Nat → Nat} {n : Nat}
theorem look_m {S : St} {j : Nat} (ht : Tap S 0 36 28 n y) (hn : n ≤ 200) (hj : j < 2 ^ 31) : fX12_look S (nI j) = some (if j < n then nI (y j) else -1) := by
  unfold fX12_look
  rw [ht.1]
  by_cases c : j < n
  · rw [if_neg (nI_ge c (by omega)), if_pos c, rI_n (by omega) (by omega), b1_s, ht.2 j c]
  · rw [if_pos (nI_le (by omega) (by omega)), if_neg c]
theorem inB {S : St} {b lo hi : Nat} {B C : Int64} (hb : b < 256) (hl : lo < 256) (hh : hi < 256) (hB : (nI lo).toInt64 = B) (hC : (nI hi).toInt64 = C) : fX12_in S (nI b).toInt64 B C = some (zb (decide (lo ≤ b) && decide (b ≤ hi))) := by
  rw [in_e S (nI b) (nI lo) (nI hi) hB hC]
  have := byteIn (S := S) hb hl hh
  rw [within_e] at this
  exact this
theorem mD (S : St) {b : Nat} (hb : b < 256) : fX12_in S (nI b).toInt64 48 57 = some (zb (isD b)) := inB (lo := 48) (hi := 57) hb (by omega) (by omega) rfl rfl
theorem mW (S : St) {b : Nat} (hb : b < 256) : fX12_in S (nI b).toInt64 97 122 = some (zb (isW b)) := inB (lo := 97) (hi := 122) hb (by omega) (by omega) rfl rfl
theorem mC (S : St) {b : Nat} (hb : b < 256) : fX12_in S (nI b).toInt64 65 72 = some (zb (isC b)) := inB (lo := 65) (hi := 72) hb (by omega) (by omega) rfl rfl
theorem mDn (S : St) : fX12_in S ((-1 : Int32)).toInt64 48 57 = some 0 := by rw [in_e S (-1) 48 57 (B := 48) (C := 57) rfl rfl]; rfl
theorem mWn (S : St) : fX12_in S ((-1 : Int32)).toInt64 97 122 = some 0 := by rw [in_e S (-1) 97 122 (B := 97) (C := 122) rfl rfl]; rfl

theorem all3 {P : Nat → Prop} : (∀ k, k < 3 → P k) ↔ (P 0 ∧ P 1 ∧ P 2) := by
  constructor
  · intro h; exact ⟨h 0 (by omega), h 1 (by omega), h 2 (by omega)⟩
  · intro h k hk
    match k, hk with
    | 0, _ => exact h.1
    | 1, _ => exact h.2.1
    | 2, _ => exact h.2.2
theorem spl3 {y : Nat → Nat} {i z : Nat} {a b c : Nat} : spl y [a, b, c] i z = decide (z - i = 3 ∧ y (i + 0) = a ∧ y (i + 1) = b ∧ y (i + 2) = c) := by
  unfold spl
  rw [← Bool.decide_and, decide_eq_decide]
  exact and_congr_right (fun _ => all3 (P := fun k => y (i + k) = ([a, b, c] : List Nat).getD k 0))
theorem is3 {S : St} {s t : Nat} {a b c : Nat} (ht : Tap S 0 36 28 n y) (hn : n ≤ 200) (hy : ∀ i, i < n → y i < 256) (g1 : gI_ S 0 37 = nI t) (g2 : gI_ S 0 38 = nI s) (hs : s ≤ t) (h2 : t ≤ n) (ha : a < 256) (hb : b < 256) (hc : c < 256) : fX12_is S (nI a) (nI b) (nI c) 0 0 0 = some (zb (spl y [a, b, c] s t)) := by
  rw [spl3]
  unfold fX12_is
  rw [if_pos (rfl : (0 : Int32) = 0), b1_s, g1, g2, nI_sub hs]
  by_cases cl : t - s = 3
  · have cl' : nI (t - s) = (3 : Int32) := by rw [cl]; rfl
    rw [if_pos cl']
    have l0 : fX12_look S (nI s) = some (nI (y (s + 0))) := by
      rw [look_m ht hn (by omega), if_pos (by omega)]; rfl
    have e0 : (nI (y (s + 0)) = nI a) ↔ y (s + 0) = a := nI_eq (by have := hy (s + 0) (by omega); omega) (by omega)
    have l1 : fX12_look S (nI s + 1) = some (nI (y (s + 1))) := by
      have : nI s + 1 = nI (s + 1) := nI_add _ 1
      rw [this, look_m ht hn (by omega), if_pos (by omega)]
    have e1 : (nI (y (s + 1)) = nI b) ↔ y (s + 1) = b := nI_eq (by have := hy (s + 1) (by omega); omega) (by omega)
    have l2 : fX12_look S (nI s + 2) = some (nI (y (s + 2))) := by
      have : nI s + 2 = nI (s + 2) := nI_add _ 2
      rw [this, look_m ht hn (by omega), if_pos (by omega)]
    have e2 : (nI (y (s + 2)) = nI c) ↔ y (s + 2) = c := nI_eq (by have := hy (s + 2) (by omega); omega) (by omega)
    rw [l0, b1_s]
    by_cases c0 : y (s + 0) = a
    case neg => rw [if_neg (fun q => c0 (e0.mp q))]; rw [decide_eq_false (fun q => c0 q.2.1)]; rfl
    rw [if_pos (e0.mpr c0)]
    rw [l1, b1_s]
    by_cases c1 : y (s + 1) = b
    case neg => rw [if_neg (fun q => c1 (e1.mp q))]; rw [decide_eq_false (fun q => c1 q.2.2.1)]; rfl
    rw [if_pos (e1.mpr c1)]
    rw [l2, b1_s]
    by_cases c2 : y (s + 2) = c
    case neg => rw [if_neg (fun q => c2 (e2.mp q))]; rw [decide_eq_false (fun q => c2 q.2.2.2)]; rfl
    rw [if_pos (e2.mpr c2)]
    rw [if_pos (by decide : (3 : Int32) < 4), bs_l, if_pos (by decide : (3 : Int32) < 6)]
    rw [decide_eq_true ⟨cl, c0, c1, c2⟩]; rfl
  · have cl' : ¬ nI (t - s) = (3 : Int32) := fun q => cl ((nI_eq (b := 3) (by omega) (by omega)).mp q)
    rw [if_neg cl', decide_eq_false (fun q => cl q.1)]; rfl
theorem all5 {P : Nat → Prop} : (∀ k, k < 5 → P k) ↔ (P 0 ∧ P 1 ∧ P 2 ∧ P 3 ∧ P 4) := by
  constructor
  · intro h; exact ⟨h 0 (by omega), h 1 (by omega), h 2 (by omega), h 3 (by omega), h 4 (by omega)⟩
  · intro h k hk
    match k, hk with
    | 0, _ => exact h.1
    | 1, _ => exact h.2.1
    | 2, _ => exact h.2.2.1
    | 3, _ => exact h.2.2.2.1
    | 4, _ => exact h.2.2.2.2
theorem spl5 {y : Nat → Nat} {i z : Nat} {a b c d e : Nat} : spl y [a, b, c, d, e] i z = decide (z - i = 5 ∧ y (i + 0) = a ∧ y (i + 1) = b ∧ y (i + 2) = c ∧ y (i + 3) = d ∧ y (i + 4) = e) := by
  unfold spl
  rw [← Bool.decide_and, decide_eq_decide]
  exact and_congr_right (fun _ => all5 (P := fun k => y (i + k) = ([a, b, c, d, e] : List Nat).getD k 0))
theorem is5 {S : St} {s t : Nat} {a b c d e : Nat} (ht : Tap S 0 36 28 n y) (hn : n ≤ 200) (hy : ∀ i, i < n → y i < 256) (g1 : gI_ S 0 37 = nI t) (g2 : gI_ S 0 38 = nI s) (hs : s ≤ t) (h2 : t ≤ n) (ha : a < 256) (hb : b < 256) (hc : c < 256) (hd : d < 256) (he : e < 256) (d0 : d ≠ 0) : fX12_is S (nI a) (nI b) (nI c) (nI d) (nI e) 0 = some (zb (spl y [a, b, c, d, e] s t)) := by
  rw [spl5]
  unfold fX12_is
  have q4 : ¬ nI d = (0 : Int32) := fun q => d0 ((nI_eq (b := 0) (by omega) (by omega)).mp q)
  rw [if_neg q4, if_pos (rfl : (0 : Int32) = 0), b1_s, g1, g2, nI_sub hs]
  by_cases cl : t - s = 5
  · have cl' : nI (t - s) = (5 : Int32) := by rw [cl]; rfl
    rw [if_pos cl']
    have l0 : fX12_look S (nI s) = some (nI (y (s + 0))) := by
      rw [look_m ht hn (by omega), if_pos (by omega)]; rfl
    have e0 : (nI (y (s + 0)) = nI a) ↔ y (s + 0) = a := nI_eq (by have := hy (s + 0) (by omega); omega) (by omega)
    have l1 : fX12_look S (nI s + 1) = some (nI (y (s + 1))) := by
      have : nI s + 1 = nI (s + 1) := nI_add _ 1
      rw [this, look_m ht hn (by omega), if_pos (by omega)]
    have e1 : (nI (y (s + 1)) = nI b) ↔ y (s + 1) = b := nI_eq (by have := hy (s + 1) (by omega); omega) (by omega)
    have l2 : fX12_look S (nI s + 2) = some (nI (y (s + 2))) := by
      have : nI s + 2 = nI (s + 2) := nI_add _ 2
      rw [this, look_m ht hn (by omega), if_pos (by omega)]
    have e2 : (nI (y (s + 2)) = nI c) ↔ y (s + 2) = c := nI_eq (by have := hy (s + 2) (by omega); omega) (by omega)
    have l3 : fX12_look S (nI s + 3) = some (nI (y (s + 3))) := by
      have : nI s + 3 = nI (s + 3) := nI_add _ 3
      rw [this, look_m ht hn (by omega), if_pos (by omega)]
    have e3 : (nI (y (s + 3)) = nI d) ↔ y (s + 3) = d := nI_eq (by have := hy (s + 3) (by omega); omega) (by omega)
    have l4 : fX12_look S (nI s + 4) = some (nI (y (s + 4))) := by
      have : nI s + 4 = nI (s + 4) := nI_add _ 4
      rw [this, look_m ht hn (by omega), if_pos (by omega)]
    have e4 : (nI (y (s + 4)) = nI e) ↔ y (s + 4) = e := nI_eq (by have := hy (s + 4) (by omega); omega) (by omega)
    rw [l0, b1_s]
    by_cases c0 : y (s + 0) = a
    case neg => rw [if_neg (fun q => c0 (e0.mp q))]; rw [decide_eq_false (fun q => c0 q.2.1)]; rfl
    rw [if_pos (e0.mpr c0)]
    rw [l1, b1_s]
    by_cases c1 : y (s + 1) = b
    case neg => rw [if_neg (fun q => c1 (e1.mp q))]; rw [decide_eq_false (fun q => c1 q.2.2.1)]; rfl
    rw [if_pos (e1.mpr c1)]
    rw [l2, b1_s]
    by_cases c2 : y (s + 2) = c
    case neg => rw [if_neg (fun q => c2 (e2.mp q))]; rw [decide_eq_false (fun q => c2 q.2.2.2.1)]; rfl
    rw [if_pos (e2.mpr c2)]
    rw [if_neg (by decide : ¬ (5 : Int32) < 4)]
    rw [l3, b1_s]
    by_cases c3 : y (s + 3) = d
    case neg => rw [if_neg (fun q => c3 (e3.mp q))]; rw [decide_eq_false (fun q => c3 q.2.2.2.2.1)]; rfl
    rw [if_pos (e3.mpr c3)]
    rw [l4, b1_s]
    by_cases c4 : y (s + 4) = e
    case neg => rw [if_neg (fun q => c4 (e4.mp q))]; rw [decide_eq_false (fun q => c4 q.2.2.2.2.2)]; rfl
    rw [if_pos (e4.mpr c4)]
    rw [bs_l, if_pos (by decide : (5 : Int32) < 6)]
    rw [decide_eq_true ⟨cl, c0, c1, c2, c3, c4⟩]; rfl
  · have cl' : ¬ nI (t - s) = (5 : Int32) := fun q => cl ((nI_eq (b := 5) (by omega) (by omega)).mp q)
    rw [if_neg cl', decide_eq_false (fun q => cl q.1)]; rfl
theorem all6 {P : Nat → Prop} : (∀ k, k < 6 → P k) ↔ (P 0 ∧ P 1 ∧ P 2 ∧ P 3 ∧ P 4 ∧ P 5) := by
  constructor
  · intro h; exact ⟨h 0 (by omega), h 1 (by omega), h 2 (by omega), h 3 (by omega), h 4 (by omega), h 5 (by omega)⟩
  · intro h k hk
    match k, hk with
    | 0, _ => exact h.1
    | 1, _ => exact h.2.1
    | 2, _ => exact h.2.2.1
    | 3, _ => exact h.2.2.2.1
    | 4, _ => exact h.2.2.2.2.1
    | 5, _ => exact h.2.2.2.2.2
theorem spl6 {y : Nat → Nat} {i z : Nat} {a b c d e f : Nat} : spl y [a, b, c, d, e, f] i z = decide (z - i = 6 ∧ y (i + 0) = a ∧ y (i + 1) = b ∧ y (i + 2) = c ∧ y (i + 3) = d ∧ y (i + 4) = e ∧ y (i + 5) = f) := by
  unfold spl
  rw [← Bool.decide_and, decide_eq_decide]
  exact and_congr_right (fun _ => all6 (P := fun k => y (i + k) = ([a, b, c, d, e, f] : List Nat).getD k 0))
theorem is6 {S : St} {s t : Nat} {a b c d e f : Nat} (ht : Tap S 0 36 28 n y) (hn : n ≤ 200) (hy : ∀ i, i < n → y i < 256) (g1 : gI_ S 0 37 = nI t) (g2 : gI_ S 0 38 = nI s) (hs : s ≤ t) (h2 : t ≤ n) (ha : a < 256) (hb : b < 256) (hc : c < 256) (hd : d < 256) (he : e < 256) (hf : f < 256) (d0 : d ≠ 0) (f0 : f ≠ 0) : fX12_is S (nI a) (nI b) (nI c) (nI d) (nI e) (nI f) = some (zb (spl y [a, b, c, d, e, f] s t)) := by
  rw [spl6]
  unfold fX12_is
  have q4 : ¬ nI d = (0 : Int32) := fun q => d0 ((nI_eq (b := 0) (by omega) (by omega)).mp q)
  have q6 : ¬ nI f = (0 : Int32) := fun q => f0 ((nI_eq (b := 0) (by omega) (by omega)).mp q)
  rw [if_neg q4, if_neg q6, b1_s, g1, g2, nI_sub hs]
  by_cases cl : t - s = 6
  · have cl' : nI (t - s) = (6 : Int32) := by rw [cl]; rfl
    rw [if_pos cl']
    have l0 : fX12_look S (nI s) = some (nI (y (s + 0))) := by
      rw [look_m ht hn (by omega), if_pos (by omega)]; rfl
    have e0 : (nI (y (s + 0)) = nI a) ↔ y (s + 0) = a := nI_eq (by have := hy (s + 0) (by omega); omega) (by omega)
    have l1 : fX12_look S (nI s + 1) = some (nI (y (s + 1))) := by
      have : nI s + 1 = nI (s + 1) := nI_add _ 1
      rw [this, look_m ht hn (by omega), if_pos (by omega)]
    have e1 : (nI (y (s + 1)) = nI b) ↔ y (s + 1) = b := nI_eq (by have := hy (s + 1) (by omega); omega) (by omega)
    have l2 : fX12_look S (nI s + 2) = some (nI (y (s + 2))) := by
      have : nI s + 2 = nI (s + 2) := nI_add _ 2
      rw [this, look_m ht hn (by omega), if_pos (by omega)]
    have e2 : (nI (y (s + 2)) = nI c) ↔ y (s + 2) = c := nI_eq (by have := hy (s + 2) (by omega); omega) (by omega)
    have l3 : fX12_look S (nI s + 3) = some (nI (y (s + 3))) := by
      have : nI s + 3 = nI (s + 3) := nI_add _ 3
      rw [this, look_m ht hn (by omega), if_pos (by omega)]
    have e3 : (nI (y (s + 3)) = nI d) ↔ y (s + 3) = d := nI_eq (by have := hy (s + 3) (by omega); omega) (by omega)
    have l4 : fX12_look S (nI s + 4) = some (nI (y (s + 4))) := by
      have : nI s + 4 = nI (s + 4) := nI_add _ 4
      rw [this, look_m ht hn (by omega), if_pos (by omega)]
    have e4 : (nI (y (s + 4)) = nI e) ↔ y (s + 4) = e := nI_eq (by have := hy (s + 4) (by omega); omega) (by omega)
    have l5 : fX12_look S (nI s + 5) = some (nI (y (s + 5))) := by
      have : nI s + 5 = nI (s + 5) := nI_add _ 5
      rw [this, look_m ht hn (by omega), if_pos (by omega)]
    have e5 : (nI (y (s + 5)) = nI f) ↔ y (s + 5) = f := nI_eq (by have := hy (s + 5) (by omega); omega) (by omega)
    rw [l0, b1_s]
    by_cases c0 : y (s + 0) = a
    case neg => rw [if_neg (fun q => c0 (e0.mp q))]; rw [decide_eq_false (fun q => c0 q.2.1)]; rfl
    rw [if_pos (e0.mpr c0)]
    rw [l1, b1_s]
    by_cases c1 : y (s + 1) = b
    case neg => rw [if_neg (fun q => c1 (e1.mp q))]; rw [decide_eq_false (fun q => c1 q.2.2.1)]; rfl
    rw [if_pos (e1.mpr c1)]
    rw [l2, b1_s]
    by_cases c2 : y (s + 2) = c
    case neg => rw [if_neg (fun q => c2 (e2.mp q))]; rw [decide_eq_false (fun q => c2 q.2.2.2.1)]; rfl
    rw [if_pos (e2.mpr c2)]
    rw [if_neg (by decide : ¬ (6 : Int32) < 4)]
    rw [l3, b1_s]
    by_cases c3 : y (s + 3) = d
    case neg => rw [if_neg (fun q => c3 (e3.mp q))]; rw [decide_eq_false (fun q => c3 q.2.2.2.2.1)]; rfl
    rw [if_pos (e3.mpr c3)]
    rw [l4, b1_s]
    by_cases c4 : y (s + 4) = e
    case neg => rw [if_neg (fun q => c4 (e4.mp q))]; rw [decide_eq_false (fun q => c4 q.2.2.2.2.2.1)]; rfl
    rw [if_pos (e4.mpr c4)]
    rw [bs_l, if_neg (by decide : ¬ (6 : Int32) < 6)]
    rw [l5, b1_s]
    by_cases c5 : y (s + 5) = f
    case neg => rw [if_neg (fun q => c5 (e5.mp q))]; rw [decide_eq_false (fun q => c5 q.2.2.2.2.2.2)]; rfl
    rw [if_pos (e5.mpr c5)]
    rw [decide_eq_true ⟨cl, c0, c1, c2, c3, c4, c5⟩]; rfl
  · have cl' : ¬ nI (t - s) = (6 : Int32) := fun q => cl ((nI_eq (b := 6) (by omega) (by omega)).mp q)
    rw [if_neg cl', decide_eq_false (fun q => cl q.1)]; rfl
theorem wnow_m {S : St} {s t : Nat} (ht : Tap S 0 36 28 n y) (hn : n ≤ 200) (hy : ∀ i, i < n → y i < 256) (g1 : gI_ S 0 37 = nI t) (g2 : gI_ S 0 38 = nI s) (hs : s ≤ t) (h2 : t ≤ n) : fX12_wordNow S = some (sv (wIx y s t)) := by
  have s0 : fX12_is S 115 116 97 109 112 0 = _ := is5 (a := 115) (b := 116) (c := 97) (d := 109) (e := 112) ht hn hy g1 g2 hs h2 (by omega) (by omega) (by omega) (by omega) (by omega) (by omega)
  have s1 : fX12_is S 98 97 114 0 0 0 = _ := is3 (a := 98) (b := 97) (c := 114) ht hn hy g1 g2 hs h2 (by omega) (by omega) (by omega)
  have s2 : fX12_is S 108 105 109 105 116 0 = _ := is5 (a := 108) (b := 105) (c := 109) (d := 105) (e := 116) ht hn hy g1 g2 hs h2 (by omega) (by omega) (by omega) (by omega) (by omega) (by omega)
  have s3 : fX12_is S 108 101 97 115 116 0 = _ := is5 (a := 108) (b := 101) (c := 97) (d := 115) (e := 116) ht hn hy g1 g2 hs h2 (by omega) (by omega) (by omega) (by omega) (by omega) (by omega)
  have s4 : fX12_is S 115 101 99 111 110 100 = _ := is6 (a := 115) (b := 101) (c := 99) (d := 111) (e := 110) (f := 100) ht hn hy g1 g2 hs h2 (by omega) (by omega) (by omega) (by omega) (by omega) (by omega) (by omega) (by omega)
  unfold fX12_wordNow wIx
  rw [s0, b1_s]
  cases spl y [115, 116, 97, 109, 112] s t
  · rw [if_pos zb0, s1, b1_s]
    cases spl y [98, 97, 114] s t
    · rw [if_pos zb0, s2, b1_s]
      cases spl y [108, 105, 109, 105, 116] s t
      · rw [if_pos zb0, s3, b1_s]
        cases spl y [108, 101, 97, 115, 116] s t
        · rw [if_pos zb0, s4, b1_s]
          cases spl y [115, 101, 99, 111, 110, 100] s t
          · rw [if_pos zb0]; rfl
          · rw [if_neg zb1]; rfl
        · rw [if_neg zb1]; rfl
      · rw [if_neg zb1]; rfl
    · rw [if_neg zb1]; rfl
  · rw [if_neg zb1]; rfl
end LEXM
