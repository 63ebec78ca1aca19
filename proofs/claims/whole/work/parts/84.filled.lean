/-! orders: filled -/
section FILLED
variable {n K : Nat} {su : Nat → Nat → Bool} {py : Nat → Nat}
def Msk (n K : Nat) (su : Nat → Nat → Bool) (py : Nat → Nat) (o m : Nat) : Prop := m < 2 ^ K ∧ (∀ k, k < K → mB m k = fB n K su py o k) ∧ fb_ct (fun i => m.testBit i) 12 = fb_ct (fun o' => (fg n K su py o').isSome) o
theorem Msk.zero : Msk n K su py 0 0 := ⟨Nat.two_pow_pos K, fun k hk => by show (!Nat.testBit 0 k) = decide (k < K); simp [hk], fb_ct_zero.mpr (fun k _ => by simp)⟩
theorem fg_free {o k : Nat} (h : fg n K su py o = some k) : k < K ∧ fB n K su py o k = true := by
  have := fst_at h
  refine ⟨this.1, ?_⟩
  have h2 := this.2
  unfold pkc at h2
  rw [Bool.and_eq_true, Bool.and_eq_true] at h2
  exact h2.1.1
theorem Msk.none {o m : Nat} (h : Msk n K su py o m) (e : fg n K su py o = none) : Msk n K su py (o + 1) m := ⟨h.1, fun k hk => by rw [fB_succ, e]; exact h.2.1 k hk, by rw [fb_ct_succ (fun o' => (fg n K su py o').isSome) o, e, h.2.2]; rfl⟩
theorem Msk.some {o m k : Nat} (hK : K ≤ 12) (h : Msk n K su py o m) (e : fg n K su py o = some k) : Msk n K su py (o + 1) (m ||| 2 ^ k) := by
  obtain ⟨k1, k2⟩ := fg_free e
  have tb : m.testBit k = false := by
    have := h.2.1 k k1
    rw [k2] at this
    unfold mB at this
    simpa using this
  refine ⟨or_lt k1 h.1, fun j hj => ?_, ?_⟩
  · rw [mB_set, fB_succ, e]
    show del_ (mB m) k j = del_ (fB n K su py o) k j
    unfold del_
    rw [h.2.1 j hj]
  · have e1 : (fun i => (m ||| 2 ^ k).testBit i) = fun i => if i = k then true else m.testBit i := by
      funext i
      rw [fb_bit_set]
      by_cases z : i = k <;> simp [z]
    have := fb_ct_upd (fun i => m.testBit i) true (i := k) (n := 12) (by omega)
    rw [tb] at this
    have t : fb_ct (fun i => if i = k then true else m.testBit i) 12 + 0 = fb_ct (fun i => m.testBit i) 12 + 1 := this
    rw [e1, fb_ct_succ (fun o' => (fg n K su py o').isSome) o, e, ← h.2.2]
    exact t
theorem find_m {S : St} (hn : n ≤ 8) (hK : K ≤ 12) (pb : ∀ o, o < n → 1 ≤ py o ∧ py o ≤ 1000) (hE : ∀ S', Fr pM2 S S' → EvM n K su py S') : ∃ S', fX12_findFilled S = some (nI (dpo n K su py n (fB n K su py 0)), S') ∧ Fr pM2 S S' ∧ ∀ o, o < n → aI_ S' 21 o = hv (fg n K su py o) := by
  have l4 := two_le hK
  obtain ⟨S1, e1, f1, r1⟩ := zero_m hn hE
  obtain ⟨S2, e2, f2, r2⟩ := tab_m hn hK pb hE f1 r1
  have g0 := (hE S1 f1).1
  obtain ⟨u, eu, u1, u2, u3⟩ := lp_inv (body := fun w50 : Int32 × Int32 × St => bX12_findFilled_176  w50.1 w50.2.1 w50.2.2) (fun o s => (∃ m, s.1 = nI m ∧ Msk n K su py o m) ∧ s.2.1 = nI o ∧ Fr pM2 S s.2.2 ∧ (∀ o', o' ≤ n → RowM n K su py s.2.2 o' (2 ^ K)) ∧ ∀ o', o' < o → aI_ s.2.2 21 o' = hv (fg n K su py o')) (fun r => Fr pM2 S r ∧ (∀ o', o' ≤ n → RowM n K su py r o' (2 ^ K)) ∧ ∀ o', o' < n → aI_ r 21 o' = hv (fg n K su py o')) n (m := 5000) (s := (0, 0, S2)) (by omega) ⟨⟨0, rfl, Msk.zero⟩, rfl, f2, r2, fun o h => by omega⟩
    (by
      rintro o ⟨s1, s2, s3⟩ ho ⟨⟨m, k1, km⟩, k2, k3, k4, k5⟩
      obtain rfl : s1 = _ := k1
      obtain rfl : s2 = _ := k2
      have k3' : Fr pM2 S s3 := k3
      have k4' : ∀ o', o' ≤ n → RowM n K su py s3 o' (2 ^ K) := k4
      have k5' : ∀ o', o' < o → aI_ s3 21 o' = hv (fg n K su py o') := k5
      obtain ⟨g1, g2, g3, g4⟩ := hE s3 k3'
      have eo : nI o + 1 = nI (o + 1) := nI_add _ 1
      have fA : Fr pM2 S (pA_ s3 21 o (-4)) := Fr.pA rfl k3'
      have g2' : gI_ (pA_ s3 21 o (-4)) 0 17 = nI K := g2
      obtain ⟨w, ew, w1, w2⟩ := pick_m (S := pA_ s3 21 o (-4)) (B := fB n K su py o) hn hK ho km.1 km.2.1 pb hE fA (fun o' h m hm => by simp only [gI_pI, gI_pL, gI_pA, gI_pB, gI_pR, gI_pW, gL_pI, gL_pL, gL_pA, gL_pB, gL_pR, gL_pW, aI_pI, aI_pL, aI_pA, aI_pB, aI_pR, aI_pW, aL_pI, aL_pL, aL_pA, aL_pB, aL_pR, aL_pW, gR_pI, gR_pL, gR_pA, gR_pB, gR_pR, gR_pW]; rw [if_neg (by omega)]; exact k4' o' h m hm) (by simp [gI_pI, gI_pL, gI_pA, gI_pB, gI_pR, gI_pW, gL_pI, gL_pL, gL_pA, gL_pB, gL_pR, gL_pW, aI_pI, aI_pL, aI_pA, aI_pB, aI_pR, aI_pW, aL_pI, aL_pL, aL_pA, aL_pB, aL_pR, aL_pW, gR_pI, gR_pL, gR_pA, gR_pB, gR_pR, gR_pW])
      have w2' : aI_ w 21 o = hv (fg n K su py o) := w2
      have fW : Fr pM2 S w := fA.trans (w1.mono (by intro a b q; simp [pM2] at q ⊢; omega))
      have rows : ∀ o', o' ≤ n → RowM n K su py w o' (2 ^ K) := fun o' h m hm => by
        rw [w1.aI rfl]; simp only [gI_pI, gI_pL, gI_pA, gI_pB, gI_pR, gI_pW, gL_pI, gL_pL, gL_pA, gL_pB, gL_pR, gL_pW, aI_pI, aI_pL, aI_pA, aI_pB, aI_pR, aI_pW, aL_pI, aL_pL, aL_pA, aL_pB, aL_pR, aL_pW, gR_pI, gR_pL, gR_pA, gR_pB, gR_pR, gR_pW]; rw [if_neg (by omega)]; exact k4' o' h m hm
      have old : ∀ o', o' < o + 1 → aI_ w 21 o' = hv (fg n K su py o') := fun o' h => by
        by_cases z : o' = o
        · rw [z]; exact w2'
        · rw [w1.aI (by simp [z])]; simp only [gI_pI, gI_pL, gI_pA, gI_pB, gI_pR, gI_pW, gL_pI, gL_pL, gL_pA, gL_pB, gL_pR, gL_pW, aI_pI, aI_pL, aI_pA, aI_pB, aI_pR, aI_pW, aL_pI, aL_pL, aL_pA, aL_pB, aL_pR, aL_pW, gR_pI, gR_pL, gR_pA, gR_pB, gR_pR, gR_pW]; rw [if_neg (by omega)]; exact k5' o' (by omega)
      left
      show ∃ s', bX12_findFilled_176 (nI m) (nI o) s3 = _ ∧ _
      unfold bX12_findFilled_176
      rw [g1, if_neg (nI_ge ho (by omega)), wI_n (by omega) (by omega), b1_s, g2', ew, b1_s, rI_n (by omega) (by omega), b1_s, b1_s, w2', eo]
      cases q : fg n K su py o with
      | none =>
        have hv0 : hv none = -4 := rfl
        have e0 : nI m ||| 0 = nI m := (fa_or m 0).trans (congrArg nI (by simp))
        rw [if_pos hv0, e0]
        exact ⟨_, rfl, ⟨m, rfl, km.none q⟩, rfl, fW, rows, old⟩
      | some k =>
        have hk := (fg_free q).1
        have n4 : ¬ hv (some k) = -4 := fun z => (m4_ne (a := k) (by omega)).mp z
        rw [if_neg n4, b1_s]
        exact ⟨_, rfl, ⟨_, orm (by omega), km.some hK q⟩, rfl, fW, rows, old⟩)
    (by
      rintro ⟨s1, s2, s3⟩ ⟨⟨m, k1, km⟩, k2, k3, k4, k5⟩
      obtain rfl : s1 = _ := k1
      obtain rfl : s2 = _ := k2
      have k3' : Fr pM2 S s3 := k3
      obtain ⟨g1, g2, g3, g4⟩ := hE s3 k3'
      refine ⟨s3, ?_, k3', k4, k5⟩
      show bX12_findFilled_176 (nI m) (nI n) s3 = _
      unfold bX12_findFilled_176
      rw [g1, if_pos (nI_le (Nat.le_refl _) (by omega))])
  have v0 : aI_ u 20 0 = nI (dpo n K su py n (fB n K su py 0)) := by
    have := u2 0 (by omega) 0 (Nat.two_pow_pos K)
    rw [Nat.mul_zero, Nat.add_zero, Nat.sub_zero] at this
    rw [this]
    exact congrArg nI (dpo_cong _ (fun k hk => by show (!Nat.testBit 0 k) = decide (k < K); simp [hk]))
  have r0 : rI_ u 20 36864 0 = some (aI_ u 20 0) := rI_n (i := 0) (by omega) (by omega)
  refine ⟨u, ?_, u1, u3⟩
  unfold fX12_findFilled
  rw [e1, b1_s, g0, e2, b1_s, eu, b1_s, r0, b1_s, v0]
theorem given_x {S : St} (hn : n ≤ 8) (hK : K ≤ 12) (g : gI_ S 42 5 = nI n) (h : ∀ o, o < n → aI_ S 46 o = hv (fg n K su py o)) : ∃ m, fX4_givenBlocks S = some (nI m) ∧ Msk n K su py n m := by
  obtain ⟨r, e, m, rfl, hm⟩ := lp_inv (body := fun w21 : Int32 × Int32 => bX4_givenBlocks_4 S w21.1 w21.2) (fun o s => (∃ m, s.1 = nI m ∧ Msk n K su py o m) ∧ s.2 = nI o) (fun r => ∃ m, r = nI m ∧ Msk n K su py n m) n (m := 5000) (s := (0, 0)) (by omega) ⟨⟨0, rfl, Msk.zero⟩, rfl⟩
    (by
      rintro o ⟨s1, s2⟩ ho ⟨⟨m, k1, km⟩, k2⟩
      obtain rfl : s1 = _ := k1
      obtain rfl : s2 = _ := k2
      have eo : nI o + 1 = nI (o + 1) := nI_add _ 1
      left
      show ∃ s', bX4_givenBlocks_4 S (nI m) (nI o) = _ ∧ _
      unfold bX4_givenBlocks_4
      rw [g, if_neg (nI_ge ho (by omega)), rI_n (by omega) (by omega), b1_s, b1_s, h o ho, eo]
      cases q : fg n K su py o with
      | none =>
        have hv0 : hv none = -4 := rfl
        rw [if_pos hv0]
        exact ⟨_, rfl, ⟨m, rfl, km.none q⟩, rfl⟩
      | some k =>
        have hk := (fg_free q).1
        have n4 : ¬ hv (some k) = -4 := fun z => (m4_ne (a := k) (by omega)).mp z
        rw [if_neg n4, b1_s]
        exact ⟨_, rfl, ⟨_, orm (by omega), km.some hK q⟩, rfl⟩)
    (by
      rintro ⟨s1, s2⟩ ⟨⟨m, k1, km⟩, k2⟩
      obtain rfl : s1 = _ := k1
      obtain rfl : s2 = _ := k2
      refine ⟨nI m, ?_, m, rfl, km⟩
      show bX4_givenBlocks_4 S (nI m) (nI n) = _
      unfold bX4_givenBlocks_4
      rw [g, if_pos (nI_le (Nat.le_refl _) (by omega))])
  refine ⟨m, ?_, hm⟩
  unfold fX4_givenBlocks
  rw [e, b1_s]
theorem count_m {q : Int32 × St} (hn : n ≤ 8) (hK : K ≤ 12) (g : gI_ q.2 0 22 = nI n) (h : ∀ o, o < n → aI_ q.2 21 o = hv (fg n K su py o)) : lp (fun w24 : Int32 × Int32 => bX12_filled_41 q w24.1 w24.2) 5000 (0, 0) = some (nI (fb_ct (fun o' => (fg n K su py o').isSome) n)) := by
  refine lp_seq' (fun o => (nI (fb_ct (fun o' => (fg n K su py o').isSome) o), nI o)) n rfl (by omega) (fun o ho => ?_) ?_
  · have eo : nI o + 1 = nI (o + 1) := nI_add _ 1
    show bX12_filled_41 q (nI (fb_ct (fun o' => (fg n K su py o').isSome) o)) (nI o) = some (.inl (nI (fb_ct (fun o' => (fg n K su py o').isSome) (o + 1)), nI (o + 1)))
    unfold bX12_filled_41
    rw [g, if_neg (nI_ge ho (by omega)), rI_n (by omega) (by omega), b1_s, h o ho, eo, fb_ct_succ (fun o' => (fg n K su py o').isSome) o]
    cases q : fg n K su py o with
    | none =>
      have hv0 : hv none = -4 := rfl
      have e0 : nI (fb_ct (fun o' => (fg n K su py o').isSome) o) + 0 = nI (fb_ct (fun o' => (fg n K su py o').isSome) o + 0) := nI_add _ 0
      rw [if_pos hv0, e0]; rfl
    | some k =>
      have hk := (fg_free q).1
      have n4 : ¬ hv (some k) = -4 := fun z => (m4_ne (a := k) (by omega)).mp z
      have e0 : nI (fb_ct (fun o' => (fg n K su py o').isSome) o) + 1 = nI (fb_ct (fun o' => (fg n K su py o').isSome) o + 1) := nI_add _ 1
      rw [if_neg n4, e0]; rfl
  · show bX12_filled_41 q _ (nI n) = _
    unfold bX12_filled_41
    rw [g, if_pos (nI_le (Nat.le_refl _) (by omega))]
end FILLED
