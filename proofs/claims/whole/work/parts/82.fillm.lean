/-! orders: the reference's tables -/
section FILLM
variable {n K : Nat} {su : Nat → Nat → Bool} {py : Nat → Nat}
theorem dpo_cong : ∀ (r : Nat) {B B' : Nat → Bool}, (∀ k, k < K → B k = B' k) → dpo n K su py r B = dpo n K su py r B'
  | 0, _, _, _ => rfl
  | r + 1, B, B', h => by
    rw [dpo, dpo, dpo_cong r h]
    congr 1
    refine mx0_cong (fun k hk => ?_)
    rw [h k hk, dpo_cong r (B := fun j => if j = k then false else B j) (B' := fun j => if j = k then false else B' j) (fun j hj => by rw [h j hj])]
def mB (m : Nat) : Nat → Bool := fun k => !m.testBit k
theorem mB_set (m k : Nat) : mB (m ||| 2 ^ k) = del_ (mB m) k := by
  funext j
  unfold mB del_
  rw [fb_bit_set]
  by_cases z : j = k <;> simp [z]
theorem sh1 : ∀ k, k < 13 → (1 : Int32) <<< (nI k &&& 31) = nI (2 ^ k) := by decide +kernel
theorem bitm {m k : Nat} (hk : k < 12) : ((nI m >>> (nI k &&& 31)) &&& 1 : Int32) = if m.testBit k then 1 else 0 := by
  rw [bit1_i (by omega)]
  have h := fa_bit (n := m) (j := k) (by omega)
  have h2 := tst (x := nI m) (k := k) (by omega)
  rw [sh1 k (by omega)] at h2
  have : bt (nI m) k = m.testBit k := by
    cases q : m.testBit k
    · exact h2.mp (h.mpr q)
    · cases q2 : bt (nI m) k
      · have := h.mp (h2.mpr q2)
        rw [q] at this; cases this
      · rfl
  rw [this]
theorem orm {m k : Nat} (hk : k < 13) : nI m ||| ((1 : Int32) <<< (nI k &&& 31)) = nI (m ||| 2 ^ k) := by rw [sh1 k hk, fa_or]
theorem or_lt {m k : Nat} (hk : k < K) (hm : m < 2 ^ K) : m ||| 2 ^ k < 2 ^ K := Nat.or_lt_two_pow hm (Nat.pow_lt_pow_right (by omega) hk)
theorem two_le (hK : K ≤ 12) : 2 ^ K ≤ 4096 := Nat.pow_le_pow_right (n := 2) (by omega) hK
def pM2 (a _b : Nat) : Bool := a == 20 || a == 21
def EvM (n K : Nat) (su : Nat → Nat → Bool) (py : Nat → Nat) (S : St) : Prop :=
  gI_ S 0 22 = nI n ∧ gI_ S 0 17 = nI K ∧ (∀ o, o < n → aI_ S 19 o = nI (py o)) ∧ ∀ k o, k < K → o < n → fX12_doesFor S (nI k) (nI o) = some (zb (su o k))
/-- the table's row of order o is right -/
def RowM (n K : Nat) (su : Nat → Nat → Bool) (py : Nat → Nat) (S : St) (o : Nat) (lim : Nat) : Prop := ∀ m, m < lim → aI_ S 20 (4096 * o + m) = nI (dpo n K su py (n - o) (mB m))
theorem zero_m {S : St} (hn : n ≤ 8) (hE : ∀ S', Fr pM2 S S' → EvM n K su py S') : ∃ r, lp (fun w21 : Int32 × St => bX12_findFilled_2  w21.1 w21.2) 5000 (0, S) = some r ∧ Fr pM2 S r ∧ RowM n K su py r n 4096 := by
  refine lp_inv (body := fun w21 : Int32 × St => bX12_findFilled_2  w21.1 w21.2) (fun i s => s.1 = nI i ∧ Fr pM2 S s.2 ∧ RowM n K su py s.2 n i) (fun r => Fr pM2 S r ∧ RowM n K su py r n 4096) 4096 (by omega) ⟨rfl, Fr.refl _ _, fun m h => by omega⟩ ?_ ?_
  · rintro i ⟨s1, s2⟩ hi ⟨k1, k2, k3⟩
    obtain rfl : s1 = _ := k1
    have k2' : Fr pM2 S s2 := k2
    have g := (hE s2 k2').1
    have ei : nI i + 1 = nI (i + 1) := nI_add _ 1
    have e1 : (4096 : Int32) * nI n + nI i = nI (4096 * n + i) := by
      have : (4096 : Int32) * nI n = nI (4096 * n) := nI_mul 4096 n
      rw [this, nI_add]
    have g4 : ¬ (4096 : Int32) ≤ nI i := nI_ge hi (by decide)
    left
    refine ⟨(nI (i + 1), pA_ s2 20 (4096 * n + i) 0), ?_, rfl, Fr.pA rfl k2', fun m hm => ?_⟩
    · show bX12_findFilled_2 (nI i) s2 = _
      unfold bX12_findFilled_2
      rw [if_neg g4, g, e1, wI_n (by omega) (by omega), b1_s, ei]
    · simp only [gI_pI, gI_pL, gI_pA, gI_pB, gI_pR, gI_pW, gL_pI, gL_pL, gL_pA, gL_pB, gL_pR, gL_pW, aI_pI, aI_pL, aI_pA, aI_pB, aI_pR, aI_pW, aL_pI, aL_pL, aL_pA, aL_pB, aL_pR, aL_pW, gR_pI, gR_pL, gR_pA, gR_pB, gR_pR, gR_pW, true_and]
      by_cases z : m = i
      · rw [if_pos (by omega), Nat.sub_self]; rfl
      · rw [if_neg (by omega)]; exact k3 m (by omega)
  · rintro ⟨s1, s2⟩ ⟨k1, k2, k3⟩
    obtain rfl : s1 = _ := k1
    have g4 : (4096 : Int32) ≤ nI 4096 := by decide
    refine ⟨s2, ?_, k2, k3⟩
    show bX12_findFilled_2 (nI 4096) s2 = _
    unfold bX12_findFilled_2
    rw [if_pos g4]
theorem idx_m {o m : Nat} : (4096 : Int32) * nI o + nI m = nI (4096 * o + m) := by
  have : (4096 : Int32) * nI o = nI (4096 * o) := nI_mul 4096 o
  rw [this, nI_add]
theorem pcell_m {S : St} {o m : Nat} (hn : n ≤ 8) (hK : K ≤ 12) (ho : o < n) (hm : m < 2 ^ K) (pb : ∀ o, o < n → 1 ≤ py o ∧ py o ≤ 1000) (hE : EvM n K su py S) (hR : RowM n K su py S (o + 1) (2 ^ K)) : lp (fun w34 : Int32 × Int32 => bX12_findFilled_72 (nI o) (nI m) S w34.1 w34.2) 5000 (nI (dpo n K su py (n - (o + 1)) (mB m)), 0) = some (nI (dpo n K su py (n - o) (mB m))) := by
  obtain ⟨g1, g2, g3, g4⟩ := hE
  have l4 := two_le hK
  have pl : ∀ r B, r ≤ n → dpo n K su py r B ≤ 8000 := fun r B hr => by have := dpo_le (K := K) (su := su) (fun o ho => (pb o ho).2) r hr B; omega
  have e1 : n - (o + 1) = n - 1 - o := by omega
  have e2 : n - 1 - (n - 1 - o) = o := by omega
  have ex : dpo n K su py (n - o) (mB m) = max (dpo n K su py (n - 1 - o) (mB m)) (mx0 (fun k => if mB m k && su o k then py o + dpo n K su py (n - 1 - o) (del_ (mB m) k) else 0) K) := by
    rw [show n - o = (n - 1 - o) + 1 by omega, dpo, e2]; rfl
  have fl : ∀ k, (if mB m k && su o k then py o + dpo n K su py (n - 1 - o) (del_ (mB m) k) else 0) ≤ 9000 := fun k => by
    have := pl (n - 1 - o) (del_ (mB m) k) (by omega)
    have := (pb o ho).2
    split <;> omega
  rw [ex, e1]
  refine lp_seq' (fun i => (nI (max (dpo n K su py (n - 1 - o) (mB m)) (mx0 (fun k => if mB m k && su o k then py o + dpo n K su py (n - 1 - o) (del_ (mB m) k) else 0) i)), nI i)) K ?_ (by omega) (fun i hi => ?_) ?_
  · show (nI (dpo n K su py (n - 1 - o) (mB m)), (0 : Int32)) = (nI (max (dpo n K su py (n - 1 - o) (mB m)) 0), nI 0)
    rw [Nat.max_zero]; rfl
  · have ei : nI i + 1 = nI (i + 1) := nI_add _ 1
    have ml : mx0 (fun k => if mB m k && su o k then py o + dpo n K su py (n - 1 - o) (del_ (mB m) k) else 0) i ≤ 9000 := mx0_le (fun k _ => fl k)
    have p1 := pl (n - 1 - o) (mB m) (by omega)
    have p2 := pl (n - 1 - o) (del_ (mB m) i) (by omega)
    have p3 := (pb o ho).2
    have stay : (if mB m i && su o i then py o + dpo n K su py (n - 1 - o) (del_ (mB m) i) else 0) = 0 → mx0 (fun k => if mB m k && su o k then py o + dpo n K su py (n - 1 - o) (del_ (mB m) k) else 0) (i + 1) = mx0 (fun k => if mB m k && su o k then py o + dpo n K su py (n - 1 - o) (del_ (mB m) k) else 0) i := fun q => by
      show max (mx0 _ i) _ = _
      simp only [q]; exact Nat.max_zero _
    show bX12_findFilled_72 (nI o) (nI m) S (nI (max (dpo n K su py (n - 1 - o) (mB m)) (mx0 (fun k => if mB m k && su o k then py o + dpo n K su py (n - 1 - o) (del_ (mB m) k) else 0) i))) (nI i) = some (.inl (nI (max (dpo n K su py (n - 1 - o) (mB m)) (mx0 (fun k => if mB m k && su o k then py o + dpo n K su py (n - 1 - o) (del_ (mB m) k) else 0) (i + 1))), nI (i + 1)))
    unfold bX12_findFilled_72
    rw [g2, if_neg (nI_ge hi (by omega)), bitm (by omega), ei]
    cases q : m.testBit i with
    | true =>
      have t1 : ¬ ((if true = true then (1 : Int32) else 0) = 0) := by decide
      have b0 : mB m i = false := by unfold mB; rw [q]; rfl
      rw [if_neg t1, stay (by rw [b0]; rfl)]
    | false =>
      have t1 : ((if false = true then (1 : Int32) else 0) = 0) := rfl
      have b0 : mB m i = true := by unfold mB; rw [q]; rfl
      rw [if_pos t1, g4 i o hi ho, b1_s]
      cases c : su o i with
      | false =>
        have z0 : zb false = 0 := rfl
        rw [if_pos z0, stay (by rw [c, Bool.and_false]; rfl)]
      | true =>
        have z1 : ¬ zb true = 0 := by decide
        have eo : nI o + 1 = nI (o + 1) := nI_add _ 1
        have l := or_lt hi hm
        have val : aI_ S 20 (4096 * (o + 1) + (m ||| 2 ^ i)) = nI (dpo n K su py (n - 1 - o) (del_ (mB m) i)) := by
          rw [hR _ l, mB_set, e1]
        have fi : (if mB m i && su o i then py o + dpo n K su py (n - 1 - o) (del_ (mB m) i) else 0) = py o + dpo n K su py (n - 1 - o) (del_ (mB m) i) := by rw [b0, c]; rfl
        have ms : mx0 (fun k => if mB m k && su o k then py o + dpo n K su py (n - 1 - o) (del_ (mB m) k) else 0) (i + 1) = max (mx0 (fun k => if mB m k && su o k then py o + dpo n K su py (n - 1 - o) (del_ (mB m) k) else 0) i) (py o + dpo n K su py (n - 1 - o) (del_ (mB m) i)) := by
          show max (mx0 _ i) _ = _
          simp only [fi]
        rw [if_neg z1, rI_n (by omega) (by omega), b1_s, eo, orm (by omega), idx_m, rI_n (by omega) (by omega), b1_s, val, g3 o ho, nI_add, ms]
        generalize mx0 (fun k => if mB m k && su o k then py o + dpo n K su py (n - 1 - o) (del_ (mB m) k) else 0) i = X at *
        generalize dpo n K su py (n - 1 - o) (mB m) = Y at *
        generalize dpo n K su py (n - 1 - o) (del_ (mB m) i) = Z at *
        by_cases d : py o + Z ≤ max Y X
        · rw [if_pos (nI_le d (by omega)), show max Y (max X (py o + Z)) = max Y X by omega]
        · rw [if_neg (nI_ge (by omega) (by omega)), show max Y (max X (py o + Z)) = py o + Z by omega]
  · show bX12_findFilled_72 (nI o) (nI m) S _ (nI K) = _
    unfold bX12_findFilled_72
    rw [g2, if_pos (nI_le (Nat.le_refl _) (by omega))]
end FILLM
