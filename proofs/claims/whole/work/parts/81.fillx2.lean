/-! orders: the class fills them, the whole -/
section FILLX
variable {n K : Nat} {su : Nat → Nat → Bool} {py : Nat → Nat}
def p47 (a _b : Nat) : Bool := a == 47
def pFi (a b : Nat) : Bool := a == 46 || a == 48 || (a == 42 && (b == 9 || b == 10))
def pFl (a b : Nat) : Bool := a == 46 || a == 47 || a == 48 || (a == 42 && (b == 9 || b == 10))
theorem EvX.frI {S S' : St} (h : EvX n K su py S) (hf : Fr pFi S S') : EvX n K su py S' :=
  ⟨by rw [hf.gI rfl]; exact h.1, by rw [hf.gI rfl]; exact h.2.1, fun o ho i hi => by rw [hf.aI rfl]; exact h.2.2.1 o ho i hi, fun o ho => by rw [hf.aI rfl]; exact h.2.2.2 o ho⟩
theorem suit_x {S : St} (hn : n ≤ 8) (hK : K ≤ 12) (h1 : gI_ S 37 4 = nI K) (h2 : gI_ S 42 5 = nI n) (hp : ∀ o, o < n → aI_ S 45 o = nI (py o)) (hd : ∀ S', Fr p47 S S' → ∀ k o, k < K → o < n → fX4_doesFor S' (nI k) (nI o) = some (zb (su o k))) : ∃ S', fX4_findSuiting S = some S' ∧ Fr p47 S S' ∧ EvX n K su py S' := by
  obtain ⟨u, eu, u1, u2⟩ := lp_inv (body := fun w21 : Int32 × St => bX4_findSuiting_2  w21.1 w21.2) (fun o s => s.1 = nI o ∧ Fr p47 S s.2 ∧ ∀ o', o' < o → ∀ j, j < 32 → bt (aI_ s.2 47 o') j = (decide (j < K) && su o' j)) (fun r => Fr p47 S r ∧ ∀ o', o' < n → ∀ j, j < 32 → bt (aI_ r 47 o') j = (decide (j < K) && su o' j)) n (m := 5000) (s := (0, S)) (by omega) ⟨rfl, Fr.refl _ _, fun o h => by omega⟩
    (by
      rintro o ⟨s1, s2⟩ ho ⟨k1, k2, k3⟩
      obtain rfl : s1 = _ := k1
      have k2' : Fr p47 S s2 := k2
      have k3' : ∀ o', o' < o → ∀ j, j < 32 → bt (aI_ s2 47 o') j = (decide (j < K) && su o' j) := k3
      have g2 : gI_ s2 42 5 = nI n := by rw [k2'.gI rfl]; exact h2
      have eo : nI o + 1 = nI (o + 1) := nI_add _ 1
      obtain ⟨w, ew, w1, w2, w3⟩ := lp_inv (body := fun w25 : Int32 × St => bX4_findSuiting_19 (nI o) w25.1 w25.2) (fun i s => s.1 = nI i ∧ Fr p47 S s.2 ∧ (∀ j, j < 32 → bt (aI_ s.2 47 o) j = (decide (j < i) && su o j)) ∧ ∀ o', o' < o → ∀ j, j < 32 → bt (aI_ s.2 47 o') j = (decide (j < K) && su o' j)) (fun r => Fr p47 S r ∧ (∀ j, j < 32 → bt (aI_ r 47 o) j = (decide (j < K) && su o j)) ∧ ∀ o', o' < o → ∀ j, j < 32 → bt (aI_ r 47 o') j = (decide (j < K) && su o' j)) K (m := 5000) (s := (0, pA_ s2 47 o 0)) (by omega) ⟨rfl, Fr.pA rfl k2', fun j hj => by simp only [gI_pI, gI_pL, gI_pA, gI_pB, gI_pR, gI_pW, gL_pI, gL_pL, gL_pA, gL_pB, gL_pR, gL_pW, aI_pI, aI_pL, aI_pA, aI_pB, aI_pR, aI_pW, aL_pI, aL_pL, aL_pA, aL_pB, aL_pR, aL_pW, gR_pI, gR_pL, gR_pA, gR_pB, gR_pR, gR_pW, and_self, if_true]; rw [b_0]; simp, fun o' h j hj => by simp only [gI_pI, gI_pL, gI_pA, gI_pB, gI_pR, gI_pW, gL_pI, gL_pL, gL_pA, gL_pB, gL_pR, gL_pW, aI_pI, aI_pL, aI_pA, aI_pB, aI_pR, aI_pW, aL_pI, aL_pL, aL_pA, aL_pB, aL_pR, aL_pW, gR_pI, gR_pL, gR_pA, gR_pB, gR_pR, gR_pW, true_and]; rw [if_neg (by omega)]; exact k3' o' h j hj⟩
        (by
          rintro i ⟨t1, t2⟩ hi ⟨l1, l2, l3, l4⟩
          obtain rfl : t1 = _ := l1
          have l2' : Fr p47 S t2 := l2
          have l3' : ∀ j, j < 32 → bt (aI_ t2 47 o) j = (decide (j < i) && su o j) := l3
          have l4' : ∀ o', o' < o → ∀ j, j < 32 → bt (aI_ t2 47 o') j = (decide (j < K) && su o' j) := l4
          have g1 : gI_ t2 37 4 = nI K := by rw [l2'.gI rfl]; exact h1
          have ei : nI i + 1 = nI (i + 1) := nI_add _ 1
          left
          show ∃ s', bX4_findSuiting_19 (nI o) (nI i) t2 = _ ∧ _
          unfold bX4_findSuiting_19
          rw [g1, if_neg (nI_ge hi (by omega)), hd t2 l2' i o hi ho, b1_s]
          cases c : su o i with
          | false =>
            have z0 : zb false = 0 := rfl
            rw [if_pos z0, ei]
            refine ⟨_, rfl, rfl, l2', fun j hj => ?_, l4'⟩
            show bt (aI_ t2 47 o) j = _
            rw [l3' j hj]
            by_cases z : j = i
            · rw [z, c]; simp
            · congr 1; rw [decide_eq_decide]; omega
          | true =>
            rw [if_neg (by decide : ¬ zb true = 0), rI_n (by omega) (by omega), b1_s, wI_n (by omega) (by omega), b1_s, ei]
            refine ⟨_, rfl, rfl, Fr.pA rfl l2', fun j hj => ?_, fun o' h j hj => ?_⟩
            · simp only [gI_pI, gI_pL, gI_pA, gI_pB, gI_pR, gI_pW, gL_pI, gL_pL, gL_pA, gL_pB, gL_pR, gL_pW, aI_pI, aI_pL, aI_pA, aI_pB, aI_pR, aI_pW, aL_pI, aL_pL, aL_pA, aL_pB, aL_pR, aL_pW, gR_pI, gR_pL, gR_pA, gR_pB, gR_pR, gR_pW, and_self, if_true]
              rw [b_or, l3' j hj, one_shl i (by omega) hj]
              by_cases z : j = i
              · simp [z, c]
              · have : decide (j < i + 1) = decide (j < i) := by rw [decide_eq_decide]; omega
                rw [this]; simp [z]
            · simp only [gI_pI, gI_pL, gI_pA, gI_pB, gI_pR, gI_pW, gL_pI, gL_pL, gL_pA, gL_pB, gL_pR, gL_pW, aI_pI, aI_pL, aI_pA, aI_pB, aI_pR, aI_pW, aL_pI, aL_pL, aL_pA, aL_pB, aL_pR, aL_pW, gR_pI, gR_pL, gR_pA, gR_pB, gR_pR, gR_pW, true_and]; rw [if_neg (by omega)]; exact l4' o' h j hj)
        (by
          rintro ⟨t1, t2⟩ ⟨l1, l2, l3, l4⟩
          obtain rfl : t1 = _ := l1
          have l2' : Fr p47 S t2 := l2
          have g1 : gI_ t2 37 4 = nI K := by rw [l2'.gI rfl]; exact h1
          refine ⟨t2, ?_, l2', l3, l4⟩
          show bX4_findSuiting_19 (nI o) (nI K) t2 = _
          unfold bX4_findSuiting_19
          rw [g1, if_pos (nI_le (Nat.le_refl _) (by omega))])
      left
      refine ⟨(nI (o + 1), w), ?_, rfl, w1, fun o' h j hj => ?_⟩
      · show bX4_findSuiting_2 (nI o) s2 = _
        unfold bX4_findSuiting_2
        rw [g2, if_neg (nI_ge ho (by omega)), wI_n (by omega) (by omega), b1_s, ew, b1_s, eo]
      · by_cases z : o' = o
        · rw [z]; exact w2 j hj
        · exact w3 o' (by omega) j hj)
    (by
      rintro ⟨s1, s2⟩ ⟨k1, k2, k3⟩
      obtain rfl : s1 = _ := k1
      have k2' : Fr p47 S s2 := k2
      have g2 : gI_ s2 42 5 = nI n := by rw [k2'.gI rfl]; exact h2
      refine ⟨s2, ?_, k2', k3⟩
      show bX4_findSuiting_2 (nI n) s2 = _
      unfold bX4_findSuiting_2
      rw [g2, if_pos (nI_le (Nat.le_refl _) (by omega))])
  refine ⟨u, ?_, u1, by rw [u1.gI rfl]; exact h1, by rw [u1.gI rfl]; exact h2, u2, fun o ho => by rw [u1.aI rfl]; exact hp o ho⟩
  unfold fX4_findSuiting
  rw [eu, b1_s]
theorem low_b : ∀ m, m < 13 → ∀ i, i < 32 → bt (((1 : Int32) <<< (nI m &&& 31)) - 1) i = decide (i < m) := by decide +kernel
theorem fill_x {S : St} (hn : n ≤ 8) (hK : K ≤ 12) (h1 : gI_ S 37 4 = nI K) (h2 : gI_ S 42 5 = nI n) (hp : ∀ o, o < n → aI_ S 45 o = nI (py o)) (pb : ∀ o, o < n → 1 ≤ py o ∧ py o ≤ 1000) (hd : ∀ S', Fr p47 S S' → ∀ k o, k < K → o < n → fX4_doesFor S' (nI k) (nI o) = some (zb (su o k))) : ∃ S', fX4_fill S = some (nI (dpo n K su py n (fB n K su py 0)), S') ∧ Fr pFl S S' ∧ ∀ o, o < n → aI_ S' 46 o = hv (fg n K su py o) := by
  obtain ⟨S1, e1, f1, E1⟩ := suit_x hn hK h1 h2 hp hd
  obtain ⟨S2, e2, f2⟩ := bestSum_x (r := n) (B := fB n K su py 0) (vw := ((1 : Int32) <<< (nI n &&& 31)) - 1) (vf := ((1 : Int32) <<< (nI K &&& 31)) - 1) hn hK (Nat.le_refl _) E1 pb (fun i hi => by rw [low_b n (by omega) i hi]; simp) (fun i hi => by rw [low_b K (by omega) i hi]; show decide (i < K) = (decide (i < K) && decide (i < K)); simp)
  have f2' : Fr pFi S1 S2 := f2.mono (by intro a b q; simp [pFi, pBs] at q ⊢; omega)
  obtain ⟨u, eu, u1, u2⟩ := lp_inv (body := fun w25 : Int32 × Int32 × Int32 × Int32 × St => bX4_fill_38  w25.1 w25.2.1 w25.2.2.1 w25.2.2.2.1 w25.2.2.2.2)
    (fun o s => s.2.2.1 = nI (dpo n K su py (n - o) (fB n K su py o)) ∧ s.2.2.2.1 = nI o ∧ (∀ j, j < 32 → bt s.1 j = (decide (j < n) && decide (o ≤ j))) ∧ (∀ j, j < 32 → bt s.2.1 j = (decide (j < K) && fB n K su py o j)) ∧ Fr pFi S1 s.2.2.2.2 ∧ ∀ o', o' < o → aI_ s.2.2.2.2 46 o' = hv (fg n K su py o'))
    (fun r => Fr pFi S1 r ∧ ∀ o', o' < n → aI_ r 46 o' = hv (fg n K su py o')) n (m := 5000) (s := (((1 : Int32) <<< (nI n &&& 31)) - 1, ((1 : Int32) <<< (nI K &&& 31)) - 1, nI (dpo n K su py n (fB n K su py 0)), 0, S2)) (by omega)
    ⟨rfl, rfl, fun j hj => by show bt (((1 : Int32) <<< (nI n &&& 31)) - 1) j = _; rw [low_b n (by omega) j hj]; simp, fun j hj => by show bt (((1 : Int32) <<< (nI K &&& 31)) - 1) j = (decide (j < K) && decide (j < K)); rw [low_b K (by omega) j hj]; simp, f2', fun o h => by omega⟩
    (by
      rintro o ⟨s1, s2, s3, s4, s5⟩ ho ⟨k1, k2, k3, k4, k5, k6⟩
      obtain rfl : s3 = _ := k1
      obtain rfl : s4 = _ := k2
      have k3' : ∀ j, j < 32 → bt s1 j = (decide (j < n) && decide (o ≤ j)) := k3
      have k4' : ∀ j, j < 32 → bt s2 j = (decide (j < K) && fB n K su py o j) := k4
      have k5' : Fr pFi S1 s5 := k5
      have k6' : ∀ o', o' < o → aI_ s5 46 o' = hv (fg n K su py o') := k6
      obtain ⟨g1, g2, g3, g4⟩ := E1.frI k5'
      have eo : nI o + 1 = nI (o + 1) := nI_add _ 1
      have m1 : ∀ j, j < 32 → bt (s1 &&& (((1 : Int32) <<< (nI o &&& 31)) ^^^ (-1))) j = (decide (j < n) && decide (o < j)) := fun j hj => by
        rw [clr (by omega) hj, k3' j hj]
        by_cases z : j = o
        · simp [z]
        · rw [if_neg z]; congr 1; rw [decide_eq_decide]; omega
      obtain ⟨S', e, f⟩ := least_x2 (S := s5) (B := fB n K su py o) (vf := s2) hn hK ho (E1.frI k5') pb m1 k4'
      have e' : fX4_leastBlock s5 (nI o) (s1 &&& (((1 : Int32) <<< (nI o &&& 31)) ^^^ (-1))) s2 (nI (dpo n K su py (n - o) (fB n K su py o))) = some (hv (fg n K su py o), S') := e
      have f' : Fr pFi S1 S' := k5'.trans (f.mono (by intro a b q; simp [pFi, pBs] at q ⊢; omega))
      have a46 : aI_ (pA_ S' 46 o (hv (fg n K su py o))) 46 o = hv (fg n K su py o) := by simp [gI_pI, gI_pL, gI_pA, gI_pB, gI_pR, gI_pW, gL_pI, gL_pL, gL_pA, gL_pB, gL_pR, gL_pW, aI_pI, aI_pL, aI_pA, aI_pB, aI_pR, aI_pW, aL_pI, aL_pL, aL_pA, aL_pB, aL_pR, aL_pW, gR_pI, gR_pL, gR_pA, gR_pB, gR_pR, gR_pW]
      have rows : ∀ o', o' < o + 1 → aI_ (pA_ S' 46 o (hv (fg n K su py o))) 46 o' = hv (fg n K su py o') := fun o' h => by
        simp only [gI_pI, gI_pL, gI_pA, gI_pB, gI_pR, gI_pW, gL_pI, gL_pL, gL_pA, gL_pB, gL_pR, gL_pW, aI_pI, aI_pL, aI_pA, aI_pB, aI_pR, aI_pW, aL_pI, aL_pL, aL_pA, aL_pB, aL_pR, aL_pW, gR_pI, gR_pL, gR_pA, gR_pB, gR_pR, gR_pW, true_and]
        by_cases z : o' = o
        · rw [if_pos z, z]
        · rw [if_neg z, f.aI rfl]; exact k6' o' (by omega)
      have w' := dpo_nx (K := K) (su := su) (py := py) ho (fB n K su py o)
      have m2 : ∀ j, j < 32 → bt (s1 &&& (((1 : Int32) <<< (nI o &&& 31)) ^^^ (-1))) j = (decide (j < n) && decide (o + 1 ≤ j)) := m1
      have en : n - (o + 1) = n - 1 - o := by omega
      left
      show ∃ s', bX4_fill_38 s1 s2 (nI (dpo n K su py (n - o) (fB n K su py o))) (nI o) s5 = _ ∧ _
      unfold bX4_fill_38
      rw [g2, if_neg (nI_ge ho (by omega)), b1_s, e', b1_s, wI_n (by omega) (by omega), b1_s, rI_n (by omega) (by omega), b1_s, a46, b1_s, rI_n (by omega) (by omega), b1_s]
      cases q : fg n K su py o with
      | none =>
        have w2 : fst_ (pkc n K su py o (fB n K su py o)) K = none := q
        rw [w2] at w'
        have hv0 : hv none = -4 := rfl
        rw [q] at rows
        rw [if_pos hv0, eo]
        refine ⟨_, rfl, ?_, rfl, m2, fun j hj => ?_, Fr.pA rfl f', rows⟩
        · show nI (dpo n K su py (n - o) (fB n K su py o)) = nI (dpo n K su py (n - (o + 1)) (fB n K su py (o + 1)))
          rw [w', Nat.zero_add, en, fB_succ, q]
        · rw [fB_succ, q]; exact k4' j hj
      | some k =>
        have w2 : fst_ (pkc n K su py o (fB n K su py o)) K = some k := q
        have hk := (fst_at w2).1
        rw [w2] at w'
        have n4 : ¬ hv (some k) = -4 := fun z => (m4_ne (a := k) (by omega)).mp z
        rw [q] at rows
        have a45 : aI_ (pA_ S' 46 o (hv (some k))) 45 o = nI (py o) := by simp only [gI_pI, gI_pL, gI_pA, gI_pB, gI_pR, gI_pW, gL_pI, gL_pL, gL_pA, gL_pB, gL_pR, gL_pW, aI_pI, aI_pL, aI_pA, aI_pB, aI_pR, aI_pW, aL_pI, aL_pL, aL_pA, aL_pB, aL_pR, aL_pW, gR_pI, gR_pL, gR_pA, gR_pB, gR_pR, gR_pW]; rw [if_neg (by omega), f.aI rfl]; exact g4 o ho
        rw [if_neg n4, b1_s, a45, eo]
        refine ⟨_, rfl, ?_, rfl, m2, fun j hj => ?_, Fr.pA rfl f', rows⟩
        · show nI (dpo n K su py (n - o) (fB n K su py o)) - nI (py o) = nI (dpo n K su py (n - (o + 1)) (fB n K su py (o + 1)))
          rw [w', nI_sub (by simp), en, fB_succ, q]
          exact congrArg nI (by simp)
        · rw [fB_succ, q]
          show bt (s2 &&& (((1 : Int32) <<< (nI k &&& 31)) ^^^ (-1))) j = (decide (j < K) && (if j = k then false else fB n K su py o j))
          rw [clr (by omega) hj, k4' j hj]
          by_cases z : j = k <;> simp [z])
    (by
      rintro ⟨s1, s2, s3, s4, s5⟩ ⟨k1, k2, k3, k4, k5, k6⟩
      obtain rfl : s3 = _ := k1
      obtain rfl : s4 = _ := k2
      have k5' : Fr pFi S1 s5 := k5
      obtain ⟨g1, g2, g3, g4⟩ := E1.frI k5'
      refine ⟨s5, ?_, k5', k6⟩
      show bX4_fill_38 s1 s2 _ (nI n) s5 = _
      unfold bX4_fill_38
      rw [g2, if_pos (nI_le (Nat.le_refl _) (by omega))])
  refine ⟨u, ?_, (f1.mono (by intro a b q; simp [pFl, p47] at q ⊢; omega)).trans (u1.mono (by intro a b q; simp [pFi, pFl] at q ⊢; omega)), u2⟩
  unfold fX4_fill
  rw [e1, b1_s, E1.2.1, E1.1, b1_s, b1_s, e2, b1_s, eu, b1_s]
end FILLX
