/-! orders: the reference's choice -/
section FILLM2
variable {n K : Nat} {su : Nat → Nat → Bool} {py : Nat → Nat}
theorem row_m {S : St} {o : Nat} (hn : n ≤ 8) (hK : K ≤ 12) (ho : o < n) (pb : ∀ o, o < n → 1 ≤ py o ∧ py o ≤ 1000) {S0 : St} (hE : ∀ S', Fr pM2 S0 S' → EvM n K su py S') (f0 : Fr pM2 S0 S) (hR : ∀ o', o < o' → o' ≤ n → RowM n K su py S o' (2 ^ K)) : ∃ r, lp (fun w30 : Int32 × St => bX12_findFilled_44 (nI o) w30.1 w30.2) 5000 (0, S) = some r ∧ Fr pM2 S0 r ∧ ∀ o', o ≤ o' → o' ≤ n → RowM n K su py r o' (2 ^ K) := by
  have l4 := two_le hK
  have e1 : (1 : Int32) <<< (nI K &&& 31) = nI (2 ^ K) := sh1 K (by omega)
  refine lp_inv (body := fun w30 : Int32 × St => bX12_findFilled_44 (nI o) w30.1 w30.2) (fun i s => s.1 = nI i ∧ Fr pM2 S0 s.2 ∧ RowM n K su py s.2 o i ∧ ∀ o', o < o' → o' ≤ n → RowM n K su py s.2 o' (2 ^ K)) (fun r => Fr pM2 S0 r ∧ ∀ o', o ≤ o' → o' ≤ n → RowM n K su py r o' (2 ^ K)) (2 ^ K) (by omega) ⟨rfl, f0, fun m h => by omega, hR⟩ ?_ ?_
  · rintro i ⟨s1, s2⟩ hi ⟨k1, k2, k3, k4⟩
    obtain rfl : s1 = _ := k1
    have k2' : Fr pM2 S0 s2 := k2
    have k4' : ∀ o', o < o' → o' ≤ n → RowM n K su py s2 o' (2 ^ K) := k4
    have E := hE s2 k2'
    have ei : nI i + 1 = nI (i + 1) := nI_add _ 1
    have eo : nI o + 1 = nI (o + 1) := nI_add _ 1
    have c := pcell_m hn hK ho hi pb E (k4' (o + 1) (by omega) (by omega))
    left
    refine ⟨(nI (i + 1), pA_ s2 20 (4096 * o + i) (nI (dpo n K su py (n - o) (mB i)))), ?_, rfl, Fr.pA rfl k2', fun m hm => ?_, fun o' h1 h2 m hm => ?_⟩
    · show bX12_findFilled_44 (nI o) (nI i) s2 = _
      unfold bX12_findFilled_44
      rw [E.2.1, e1, if_neg (nI_ge hi (by omega)), eo, idx_m, rI_n (by omega) (by omega), b1_s, k4' (o + 1) (by omega) (by omega) i hi, c, b1_s, idx_m, wI_n (by omega) (by omega), b1_s, ei]
    · simp only [gI_pI, gI_pL, gI_pA, gI_pB, gI_pR, gI_pW, gL_pI, gL_pL, gL_pA, gL_pB, gL_pR, gL_pW, aI_pI, aI_pL, aI_pA, aI_pB, aI_pR, aI_pW, aL_pI, aL_pL, aL_pA, aL_pB, aL_pR, aL_pW, gR_pI, gR_pL, gR_pA, gR_pB, gR_pR, gR_pW, true_and]
      by_cases z : m = i
      · rw [if_pos (by omega), z]
      · rw [if_neg (by omega)]; exact k3 m (by omega)
    · simp only [gI_pI, gI_pL, gI_pA, gI_pB, gI_pR, gI_pW, gL_pI, gL_pL, gL_pA, gL_pB, gL_pR, gL_pW, aI_pI, aI_pL, aI_pA, aI_pB, aI_pR, aI_pW, aL_pI, aL_pL, aL_pA, aL_pB, aL_pR, aL_pW, gR_pI, gR_pL, gR_pA, gR_pB, gR_pR, gR_pW, true_and]
      rw [if_neg (by omega)]; exact k4' o' h1 h2 m hm
  · rintro ⟨s1, s2⟩ ⟨k1, k2, k3, k4⟩
    obtain rfl : s1 = _ := k1
    have k2' : Fr pM2 S0 s2 := k2
    have E := hE s2 k2'
    refine ⟨s2, ?_, k2', fun o' h1 h2 => ?_⟩
    · show bX12_findFilled_44 (nI o) (nI (2 ^ K)) s2 = _
      unfold bX12_findFilled_44
      rw [E.2.1, e1, if_pos (nI_le (Nat.le_refl _) (by omega))]
    · by_cases z : o' = o
      · rw [z]; exact k3
      · exact k4 o' (by omega) h2
theorem dn0 : nI 0 + (-1) < (0 : Int32) := by decide
theorem dnS (m : Nat) : nI (m + 1) + (-1) = nI m := nI_m1 (by omega)
theorem nneg {m : Nat} (h : m < 2 ^ 31) : ¬ nI m < (0 : Int32) := nI_pos h
theorem subm (m : Nat) : nI m - 1 = nI m + (-1) := by rw [Int32.sub_eq_add_neg]
theorem tab_m {S : St} (hn : n ≤ 8) (hK : K ≤ 12) (pb : ∀ o, o < n → 1 ≤ py o ∧ py o ≤ 1000) {S0 : St} (hE : ∀ S', Fr pM2 S0 S' → EvM n K su py S') (f0 : Fr pM2 S0 S) (hR : RowM n K su py S n 4096) : ∃ r, lp (fun w27 : Int32 × St => bX12_findFilled_38  w27.1 w27.2) 5000 (nI n - 1, S) = some r ∧ Fr pM2 S0 r ∧ ∀ o', o' ≤ n → RowM n K su py r o' (2 ^ K) := by
  have l4 := two_le hK
  refine lp_inv (body := fun w27 : Int32 × St => bX12_findFilled_38  w27.1 w27.2) (fun i s => s.1 = nI (n - i) + (-1) ∧ Fr pM2 S0 s.2 ∧ ∀ o', n - i ≤ o' → o' ≤ n → RowM n K su py s.2 o' (2 ^ K)) (fun r => Fr pM2 S0 r ∧ ∀ o', o' ≤ n → RowM n K su py r o' (2 ^ K)) n (by omega) ⟨subm n, f0, fun o' h1 h2 m hm => by
      have : o' = n := by omega
      rw [this]; exact hR m (by omega)⟩ ?_ ?_
  · rintro i ⟨s1, s2⟩ hi ⟨k1, k2, k3⟩
    obtain rfl : s1 = _ := k1
    have k2' : Fr pM2 S0 s2 := k2
    have k3' : ∀ o', n - i ≤ o' → o' ≤ n → RowM n K su py s2 o' (2 ^ K) := k3
    have en : n - i = (n - (i + 1)) + 1 := by omega
    obtain ⟨r, e, f, h⟩ := row_m (o := n - (i + 1)) hn hK (by omega) pb hE k2' (fun o' h1 h2 => k3' o' (by omega) h2)
    left
    refine ⟨(nI (n - (i + 1)) + (-1), r), ?_, rfl, f, h⟩
    show bX12_findFilled_38 (nI (n - i) + (-1)) s2 = _
    unfold bX12_findFilled_38
    rw [en, dnS, if_neg (nneg (by omega)), e, b1_s]
  · rintro ⟨s1, s2⟩ ⟨k1, k2, k3⟩
    obtain rfl : s1 = _ := k1
    have k3' : ∀ o', n - n ≤ o' → o' ≤ n → RowM n K su py s2 o' (2 ^ K) := k3
    refine ⟨s2, ?_, k2, fun o' h => k3' o' (by omega) h⟩
    show bX12_findFilled_38 (nI (n - n) + (-1)) s2 = _
    unfold bX12_findFilled_38
    rw [Nat.sub_self, if_pos dn0]
theorem pick_m {S : St} {o m : Nat} {B : Nat → Bool} (hn : n ≤ 8) (hK : K ≤ 12) (ho : o < n) (hm : m < 2 ^ K) (hB : ∀ k, k < K → mB m k = B k) (pb : ∀ o, o < n → 1 ≤ py o ∧ py o ≤ 1000) {S0 : St} (hE : ∀ S', Fr pM2 S0 S' → EvM n K su py S') (f0 : Fr pM2 S0 S) (hR : ∀ o', o' ≤ n → RowM n K su py S o' (2 ^ K)) (h4 : aI_ S 21 o = -4) : ∃ r, lp (fun w55 : Int32 × St => bX12_findFilled_199 (nI m) (nI o) w55.1 w55.2) 5000 (nI K - 1, S) = some r ∧ Fr (fun a b => a == 21 && b == o) S r ∧ aI_ r 21 o = hv (fst_ (pkc n K su py o B) K) := by
  have l4 := two_le hK
  have eo : nI o + 1 = nI (o + 1) := nI_add _ 1
  have pl : ∀ r B, r ≤ n → dpo n K su py r B ≤ 8000 := fun r B hr => by have := dpo_le (K := K) (su := su) (fun o ho => (pb o ho).2) r hr B; omega
  refine lp_inv (body := fun w55 : Int32 × St => bX12_findFilled_199 (nI m) (nI o) w55.1 w55.2) (fun i s => s.1 = nI (K - i) + (-1) ∧ Fr (fun a b => a == 21 && b == o) S s.2 ∧ ((aI_ s.2 21 o = -4 ∧ ∀ k, K - i ≤ k → k < K → pkc n K su py o B k = false) ∨ ∃ k, K - i ≤ k ∧ k < K ∧ pkc n K su py o B k = true ∧ (∀ j, K - i ≤ j → j < k → pkc n K su py o B j = false) ∧ aI_ s.2 21 o = nI k)) (fun r => Fr (fun a b => a == 21 && b == o) S r ∧ aI_ r 21 o = hv (fst_ (pkc n K su py o B) K)) K (by omega) ⟨subm K, Fr.refl _ _, Or.inl ⟨h4, fun k a b => by omega⟩⟩ ?_ ?_
  · rintro i ⟨s1, s2⟩ hi ⟨k1, k2, k3⟩
    obtain rfl : s1 = _ := k1
    have k2' : Fr (fun a b => a == 21 && b == o) S s2 := k2
    have k3' : (aI_ s2 21 o = -4 ∧ ∀ k, K - i ≤ k → k < K → pkc n K su py o B k = false) ∨ ∃ k, K - i ≤ k ∧ k < K ∧ pkc n K su py o B k = true ∧ (∀ j, K - i ≤ j → j < k → pkc n K su py o B j = false) ∧ aI_ s2 21 o = nI k := k3
    have F := f0.trans (k2'.mono (q := pM2) (by intro a b q; simp [pM2] at q ⊢; omega))
    obtain ⟨g1, g2, g3, g4⟩ := hE s2 F
    obtain ⟨t, ht⟩ : ∃ t, t = K - (i + 1) := ⟨_, rfl⟩
    have en : K - i = t + 1 := by omega
    have htK : t < K := by omega
    have keep : pkc n K su py o B t = false → ((aI_ s2 21 o = -4 ∧ ∀ k, K - (i + 1) ≤ k → k < K → pkc n K su py o B k = false) ∨ ∃ k, K - (i + 1) ≤ k ∧ k < K ∧ pkc n K su py o B k = true ∧ (∀ j, K - (i + 1) ≤ j → j < k → pkc n K su py o B j = false) ∧ aI_ s2 21 o = nI k) := fun q => by
      rcases k3' with ⟨a, b⟩ | ⟨k, a, b, c, d, e⟩
      · refine Or.inl ⟨a, fun k x y => ?_⟩
        by_cases z : k = t
        · rw [z]; exact q
        · exact b k (by omega) y
      · refine Or.inr ⟨k, by omega, b, c, fun j x y => ?_, e⟩
        by_cases z : j = t
        · rw [z]; exact q
        · exact d j (by omega) y
    have r20 : ∀ j, aI_ s2 20 j = aI_ S 20 j := fun j => k2'.aI rfl
    have bb : mB m t = B t := hB t htK
    left
    show ∃ s', bX12_findFilled_199 (nI m) (nI o) (nI (K - i) + (-1)) s2 = _ ∧ _
    unfold bX12_findFilled_199
    rw [en, dnS, if_neg (nneg (by omega)), bitm (by omega), ht.symm.symm]
    rw [← ht]
    cases q : m.testBit t with
    | true =>
      have t1 : ¬ ((if true = true then (1 : Int32) else 0) = 0) := by decide
      have b0 : B t = false := by rw [← bb]; unfold mB; rw [q]; rfl
      rw [if_neg t1]
      exact ⟨_, rfl, rfl, k2', by rw [ht]; exact keep (by unfold pkc; rw [b0]; rfl)⟩
    | false =>
      have t1 : ((if false = true then (1 : Int32) else 0) = 0) := rfl
      have b0 : B t = true := by rw [← bb]; unfold mB; rw [q]; rfl
      rw [if_pos t1, g4 t o htK ho, b1_s]
      cases c : su o t with
      | false =>
        have z0 : zb false = 0 := rfl
        rw [if_pos z0]
        exact ⟨_, rfl, rfl, k2', by rw [ht]; exact keep (by unfold pkc; rw [c, Bool.and_false]; rfl)⟩
      | true =>
        have z1 : ¬ zb true = 0 := by decide
        have l := or_lt htK hm
        have v1 : aI_ s2 20 (4096 * (o + 1) + (m ||| 2 ^ t)) = nI (dpo n K su py (n - 1 - o) (del_ B t)) := by
          rw [r20, hR (o + 1) (by omega) _ l, mB_set, show n - (o + 1) = n - 1 - o by omega]
          exact congrArg nI (dpo_cong _ (fun k hk => by unfold del_; rw [hB k hk]))
        have v2 : aI_ s2 20 (4096 * o + m) = nI (dpo n K su py (n - o) B) := by
          rw [r20, hR o (by omega) _ hm]
          exact congrArg nI (dpo_cong _ hB)
        have p1 := pl (n - 1 - o) (del_ B t) (by omega)
        have p2 := pl (n - o) B (by omega)
        have p3 := (pb o ho).2
        rw [if_neg z1, rI_n (by omega) (by omega), b1_s, eo, orm (by omega), idx_m, rI_n (by omega) (by omega), b1_s, idx_m, rI_n (by omega) (by omega), b1_s, v1, v2, g3 o ho, nI_add]
        by_cases d : py o + dpo n K su py (n - 1 - o) (del_ B t) = dpo n K su py (n - o) B
        · rw [if_pos (congrArg nI d), wI_n (by omega) (by omega), b1_s]
          refine ⟨_, rfl, rfl, Fr.pA (by simp) k2', Or.inr ⟨t, by omega, htK, by unfold pkc; rw [b0, c, decide_eq_true d]; rfl, fun j x y => by omega, by simp [gI_pI, gI_pL, gI_pA, gI_pB, gI_pR, gI_pW, gL_pI, gL_pL, gL_pA, gL_pB, gL_pR, gL_pW, aI_pI, aI_pL, aI_pA, aI_pB, aI_pR, aI_pW, aL_pI, aL_pL, aL_pA, aL_pB, aL_pR, aL_pW, gR_pI, gR_pL, gR_pA, gR_pB, gR_pR, gR_pW]⟩⟩
        · rw [if_neg (fun z => d ((nI_eq (by omega) (by omega)).mp z))]
          exact ⟨_, rfl, rfl, k2', by rw [ht]; exact keep (by unfold pkc; rw [decide_eq_false d, Bool.and_false])⟩
  · rintro ⟨s1, s2⟩ ⟨k1, k2, k3⟩
    obtain rfl : s1 = _ := k1
    have k3' : (aI_ s2 21 o = -4 ∧ ∀ k, K - K ≤ k → k < K → pkc n K su py o B k = false) ∨ ∃ k, K - K ≤ k ∧ k < K ∧ pkc n K su py o B k = true ∧ (∀ j, K - K ≤ j → j < k → pkc n K su py o B j = false) ∧ aI_ s2 21 o = nI k := k3
    refine ⟨s2, ?_, k2, ?_⟩
    · show bX12_findFilled_199 (nI m) (nI o) (nI (K - K) + (-1)) s2 = _
      unfold bX12_findFilled_199
      rw [Nat.sub_self, if_pos dn0]
    · rcases k3' with ⟨a, b⟩ | ⟨k, a, b, c, d, e⟩
      · rw [a, fst_none (fun k hk => b k (by omega) hk)]; rfl
      · rw [e, fst_some b c (fun j hj => d j (by omega) hj)]; rfl
end FILLM2
