/-! orders: the class's best sum is the tables' -/
theorem clr {v : Int32} {x i : Nat} (hx : x < 32) (hi : i < 32) : bt (v &&& (((1 : Int32) <<< (nI x &&& 31)) ^^^ (-1))) i = if i = x then false else bt v i := by
  rw [b_and, b_xor, one_shl x hx hi, b_m1 i hi]
  by_cases z : i = x <;> simp [z]
theorem dpo_le {n K : Nat} {su : Nat → Nat → Bool} {py : Nat → Nat} (hb : ∀ o, o < n → py o ≤ 1000) : ∀ r, r ≤ n → ∀ B, dpo n K su py r B ≤ 1000 * r
  | 0, _, _ => by simp [dpo]
  | r + 1, hr, B => by
    have h1 := dpo_le (K := K) (su := su) hb r (by omega)
    rw [dpo]
    apply Nat.max_le.mpr
    refine ⟨by have := h1 B; omega, mx0_le (fun k _ => ?_)⟩
    by_cases c : (B k && su (n - 1 - r) k) = true
    · rw [if_pos c]
      have := hb (n - 1 - r) (by omega)
      have := h1 (fun j => if j = k then false else B j)
      omega
    · rw [if_neg c]; omega
theorem bestSum_x {n K r : Nat} {su : Nat → Nat → Bool} {py : Nat → Nat} {B : Nat → Bool} {S : St} {vw vf : Int32} (hn : n ≤ 8) (hK : K ≤ 12) (hr : r ≤ n) (hE : EvX n K su py S) (pb : ∀ o, o < n → 1 ≤ py o ∧ py o ≤ 1000) (hw : ∀ i, i < 32 → bt vw i = (decide (i < n) && decide (n ≤ i + r))) (hf : ∀ i, i < 32 → bt vf i = (decide (i < K) && B i)) : ∃ S', fX4_bestSum S vw vf = some (nI (dpo n K su py r B), S') ∧ Fr pBs S S' := by
  obtain ⟨S0, e0, f0, n0⟩ := none_x (S := S)
  have f1 : Fr pBs S (pI_ S0 42 9 vf) := Fr.pI rfl f0
  have fin : ∀ {M P Sx A : Nat → Bool} {hd : Nat → Option Nat}, Gre n K su py B M P Sx A hd → (∀ o, o < n → (P o || M o) = decide (n ≤ o + r)) → (∀ o, o < n → M o = false) → wt n py Sx = dpo n K su py r B := fun {M P Sx A hd} h q z => by
    obtain ⟨c, h1, h3, h2, h4, h5, h6⟩ := h
    refine greedy_opt (c := 1000) hr (fun o ho => (pb o ho).2) c h1 h3 (fun o ho => ?_)
    have := q o ho
    rw [z o ho, Bool.or_false] at this
    rw [this, decide_eq_true_eq]
  obtain ⟨u, eu, u1, u2⟩ := lp_inv (body := fun w28 : Int32 × Int32 × Int32 × St => bX4_bestSum_35  w28.1 w28.2.1 w28.2.2.1 w28.2.2.2)
    (fun i s => ∃ M P Sx A hd, s.1 = nI (wt n py Sx) ∧ s.2.2.1 = nI i ∧ (∀ j, j < 32 → bt s.2.1 j = M j) ∧ (∀ j, j < 32 → M j = true → j < n) ∧ Fr pBs S s.2.2.2 ∧ (∀ k, k < 12 → aI_ s.2.2.2 48 k = hv (hd k)) ∧ (∀ j, j < 32 → bt (gI_ s.2.2.2 42 9) j = (decide (j < K) && B j)) ∧ Gre n K su py B M P Sx A hd ∧ (∀ o, o < n → (P o || M o) = decide (n ≤ o + r)) ∧ fb_ct M n + i ≤ 8)
    (fun r' => r'.1 = nI (dpo n K su py r B) ∧ Fr pBs S r'.2) 8 (m := 5000) (s := (0, vw, 0, pI_ S0 42 9 vf)) (by omega)
    (by
      refine ⟨fun i => decide (i < n) && decide (n ≤ i + r), fun _ => false, fun _ => false, fun _ => false, fun _ => none, ?_, rfl, hw, fun j hj h => ?_, f1, fun k hk => n0 k hk, fun j hj => ?_, ⟨fun t W f hM hW => ?_, ⟨fun k o e => (by cases e), fun k k' o e => (by cases e)⟩, fun o ho => ?_, fun k e => (by cases e), fun o ho e => (by cases e), fun o ho e => (by cases e), fun o x ho hx e => (by cases e)⟩, fun o ho => ?_, ?_⟩
      · show (0 : Int32) = nI (wt n py (fun _ => false))
        rw [wt_zero (fun _ _ => rfl)]; rfl
      · simp at h; exact h.1
      · simp only [gI_pI, gI_pL, gI_pA, gI_pB, gI_pR, gI_pW, gL_pI, gL_pL, gL_pA, gL_pB, gL_pR, gL_pW, aI_pI, aI_pL, aI_pA, aI_pB, aI_pR, aI_pW, aL_pI, aL_pL, aL_pA, aL_pB, aL_pR, aL_pW, gR_pI, gR_pL, gR_pA, gR_pB, gR_pR, gR_pW, and_self, if_true]; exact hf j hj
      · have : fb_ct (fun o => W o && decide (t < py o)) n = 0 := fb_ct_zero.mpr (fun o ho => by
          cases q : W o
          · rfl
          · exact absurd (hW o ho q) (by simp))
        omega
      · simp
      · simp [ho]
      · have := fb_ct_le (fun i => decide (i < n) && decide (n ≤ i + r)) n
        omega)
    (by
      rintro i ⟨s1, s2, s3, s4⟩ hi ⟨M, P, Sx, A, hd, k1, k2, k3, k4, k5, k6, k7, k8, k9, k10⟩
      obtain rfl : s1 = _ := k1
      obtain rfl : s3 = _ := k2
      have k3' : ∀ j, j < 32 → bt s2 j = M j := k3
      have k5' : Fr pBs S s4 := k5
      have k6' : ∀ k, k < 12 → aI_ s4 48 k = hv (hd k) := k6
      have k7' : ∀ j, j < 32 → bt (gI_ s4 42 9) j = (decide (j < K) && B j) := k7
      obtain ⟨g1, g2, g3, g4⟩ := hE.fr k5'
      have ei : nI i + 1 = nI (i + 1) := nI_add _ 1
      have n8 : ¬ (8 : Int32) ≤ nI i := nI_ge hi (by decide)
      show (∃ s', bX4_bestSum_35 (nI (wt n py Sx)) s2 (nI i) s4 = _ ∧ _) ∨ (∃ r', bX4_bestSum_35 (nI (wt n py Sx)) s2 (nI i) s4 = _ ∧ _)
      unfold bX4_bestSum_35
      rw [if_neg n8]
      by_cases z : s2 = 0
      · rw [if_pos z]
        refine Or.inr ⟨_, rfl, ?_, k5'⟩
        exact congrArg nI (fin k8 k9 (fun o ho => by rw [← k3' o (by omega), z]; exact b_0 o))
      · rw [if_neg z]
        have ex : ∃ o, o < n ∧ M o = true := Classical.byContradiction (fun q => z (b_ext (fun j hj => by
          rw [k3' j hj, b_0]
          cases e : M j
          · rfl
          · exact absurd ⟨j, k4 j hj e, e⟩ q)))
        obtain ⟨x, ex1, hx, hMx, hmx⟩ := paid_x (v := s2) hn g2 g4 pb k3' ex
        rw [ex1, b1_s, b1_s, oI_e, b1_s]
        have enx : EnX n K su B (pI_ s4 42 10 0) := ⟨g1, by simp only [gI_pI, gI_pL, gI_pA, gI_pB, gI_pR, gI_pW, gL_pI, gL_pL, gL_pA, gL_pB, gL_pR, gL_pW, aI_pI, aI_pL, aI_pA, aI_pB, aI_pR, aI_pW, aL_pI, aL_pL, aL_pA, aL_pB, aL_pR, aL_pW, gR_pI, gR_pL, gR_pA, gR_pB, gR_pR, gR_pW]; simpa using g2, g3, fun j hj => by simp only [gI_pI, gI_pL, gI_pA, gI_pB, gI_pR, gI_pW, gL_pI, gL_pL, gL_pA, gL_pB, gL_pR, gL_pW, aI_pI, aI_pL, aI_pA, aI_pB, aI_pR, aI_pW, aL_pI, aL_pL, aL_pA, aL_pB, aL_pR, aL_pW, gR_pI, gR_pL, gR_pA, gR_pB, gR_pR, gR_pW]; simpa using k7' j hj⟩
        have row : Row (pI_ s4 42 10 0) hd (fun _ => false) := ⟨fun k hk => k6' k hk, fun j hj => by simp only [gI_pI, gI_pL, gI_pA, gI_pB, gI_pR, gI_pW, gL_pI, gL_pL, gL_pA, gL_pB, gL_pR, gL_pW, aI_pI, aI_pL, aI_pA, aI_pB, aI_pR, aI_pW, aL_pI, aL_pL, aL_pA, aL_pB, aL_pR, aL_pW, gR_pI, gR_pL, gR_pA, gR_pB, gR_pR, gR_pW, and_self, if_true]; exact b_0 j⟩
        have nh : ∀ k, hd k ≠ some x := fun k e => by
          have := k8.2.2.2.2.2.1 x hx (k8.2.1.1 k x e).2.2.2.2
          rw [hMx] at this; cases this
        have c1 : fb_ct (fun c => if c = x then true else false) n = 0 + 1 := by
          have h := fb_ct_upd (fun _ => false) true hx
          have h0 : fb_ct (fun _ => false) n = 0 := fb_ct_zero.mpr (fun _ _ => rfl)
          rw [h0] at h; simpa using h
        obtain ⟨rr, S', er, fr, hr'⟩ := room hn hK k8.2.1 9 (pI_ s4 42 10 0) x 0 (fun _ => false) (fun c => if c = x then true else false) (by omega) enx row hx (by simp) c1 (fun c hc hCc k hk => by
          by_cases q : c = x
          · rw [q] at hk; exact absurd hk (nh k)
          · simp [q] at hCc)
        have er' : fX4_makeRoom 9 (pI_ s4 42 10 0) (nI x) 0 = some (rr, S') := er
        have fr' : Fr pBs S S' := (Fr.pI rfl k5').trans (fr.mono (by intro a b q; simp [pMk, pBs] at q ⊢; omega))
        have k7'' : ∀ j, j < 32 → bt (gI_ S' 42 9) j = (decide (j < K) && B j) := fun j hj => by
          rw [fr.gI rfl]; simp only [gI_pI, gI_pL, gI_pA, gI_pB, gI_pR, gI_pW, gL_pI, gL_pL, gL_pA, gL_pB, gL_pR, gL_pW, aI_pI, aI_pL, aI_pA, aI_pB, aI_pR, aI_pW, aL_pI, aL_pL, aL_pA, aL_pB, aL_pR, aL_pW, gR_pI, gR_pL, gR_pA, gR_pB, gR_pR, gR_pW]; simpa using k7' j hj
        have ct : fb_ct (fun o => if o = x then false else M o) n + (i + 1) ≤ 8 := by
          have h := fb_ct_upd M false hx
          rw [hMx] at h
          have h' : fb_ct (fun k => if k = x then false else M k) n + 1 = fb_ct M n + 0 := h
          omega
        have pm : ∀ o, o < n → ((if o = x then true else P o) || (if o = x then false else M o)) = decide (n ≤ o + r) := fun o ho => by
          by_cases q : o = x
          · have := k9 x hx
            rw [hMx, Bool.or_true] at this
            rw [q, ← this]; simp
          · simp only [q, if_false]; exact k9 o ho
        have nb : ∀ j, j < 32 → bt (s2 &&& (((1 : Int32) <<< (nI x &&& 31)) ^^^ (-1))) j = if j = x then false else M j := fun j hj => by
          rw [clr (by omega) hj, k3' j hj]
        have nn : ∀ j, j < 32 → (if j = x then false else M j) = true → j < n := fun j hj q => by
          by_cases z : j = x
          · simp [z] at q
          · simp only [z, if_false] at q; exact k4 j hj q
        rw [er', b1_s]
        left
        rcases hr' with ⟨rfl, T', row', fa⟩ | ⟨rfl, hd', T', row', sc⟩
        · rw [if_pos rfl, ei]
          exact ⟨_, rfl, _, _, Sx, _, hd, rfl, rfl, nb, nn, fr', row'.1, k7'', gre_fail k8 hx hMx hmx fa, pm, ct⟩
        · have sx : Sx x = false := by
            cases q : Sx x
            · rfl
            · obtain ⟨k, e⟩ := (k8.2.2.1 x hx).mp q
              exact absurd e (nh k)
          have ew : wt n py (fun o => if o = x then true else Sx o) = wt n py Sx + py x := by
            rw [wt_del (x := x) hx (by simp)]
            congr 1
            unfold wt
            refine fb_sm_cong (fun o ho => ?_)
            by_cases q : o = x
            · simp [q, sx]
            · simp [q]
          rw [if_neg (by decide : ¬ (1 : Int32) = 0), rI_n (by omega) (by omega), b1_s, ei]
          have p45 : aI_ S' 45 x = nI (py x) := by rw [fr.aI rfl]; exact g4 x hx
          refine ⟨_, rfl, _, _, _, A, hd', ?_, rfl, nb, nn, fr', row'.1, k7'', gre_suc k8 hx hMx hmx sc, pm, ct⟩
          show nI (wt n py Sx) + aI_ S' 45 x = nI (wt n py (fun o => if o = x then true else Sx o))
          rw [p45, nI_add, ew])
    (by
      rintro ⟨s1, s2, s3, s4⟩ ⟨M, P, Sx, A, hd, k1, k2, k3, k4, k5, k6, k7, k8, k9, k10⟩
      obtain rfl : s1 = _ := k1
      obtain rfl : s3 = _ := k2
      have g : (8 : Int32) ≤ nI 8 := by decide
      refine ⟨(nI (wt n py Sx), s4), ?_, ?_, k5⟩
      · show bX4_bestSum_35 (nI (wt n py Sx)) s2 (nI 8) s4 = _
        unfold bX4_bestSum_35
        rw [if_pos g]
      · have h0 : fb_ct M n = 0 := by omega
        exact congrArg nI (fin k8 k9 (fun o ho => fb_ct_zero.mp h0 o ho)))
  refine ⟨u.2, ?_, u2⟩
  unfold fX4_bestSum
  rw [e0, b1_s, oI_e, b1_s, eu, b1_s, u1]
