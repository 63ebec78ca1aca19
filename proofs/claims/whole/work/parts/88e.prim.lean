/-! reading laws: what both readers do with one token -/
theorem lp_l {σ ρ : Type} {body : σ → Option (σ ⊕ ρ)} {s s' : σ} (m : Nat) (h : body s = some (.inl s')) : lp body (m + 1) s = lp body m s' := by simp [lp, h]
theorem lp_r {σ ρ : Type} {body : σ → Option (σ ⊕ ρ)} {s : σ} {r : ρ} (m : Nat) (h : body s = some (.inr r)) : lp body (m + 1) s = some r := by simp [lp, h]
def pRd (a b : Nat) : Bool := a == 61 && (decide (1 ≤ b) && decide (b ≤ 6))
def XF (S : St) (f pl : Nat) : Prop := gI_ S 61 5 = nI f ∧ gI_ S 61 6 = nI pl
def MF (S : St) (f pl : Nat) : Prop := gI_ S 0 41 = nI f ∧ gI_ S 0 42 = nI pl ∧ 1 ≤ f ∧ f ≤ 5
section PRIM
variable {y : Nat → Nat} {n c : Nat}
/-- the class's rows of tokens stand -/
def EvT (y : Nat → Nat) (n c : Nat) (S : St) : Prop := gI_ S 56 5 = nI (c + 1) ∧ TkR y n (c + 1) S ∧ c ≤ 200 ∧ tst_ y n c = n ∧ ∀ t, t < c → tst_ y n t < n
theorem EvT.fr {p : Nat → Nat → Bool} {S S' : St} (h : EvT y n c S) (hf : Fr p S S') (h1 : p 56 5 = false) (h2 : ∀ k j, 58 ≤ k → k ≤ 60 → p k j = false) : EvT y n c S' :=
  ⟨by rw [hf.gI h1]; exact h.1, fun t ht => by
    obtain ⟨a, b, d⟩ := h.2.1 t ht
    exact ⟨by rw [hf.aI (h2 _ _ (by omega) (by omega))]; exact a, by rw [hf.aI (h2 _ _ (by omega) (by omega))]; exact b, by rw [hf.aI (h2 _ _ (by omega) (by omega))]; exact d⟩, h.2.2⟩
theorem EvT.kd0 {S : St} (h : EvT y n c S) {t : Nat} (ht : t ≤ c) (hk : kd y n t ≠ 0) : t < c := by
  rcases Nat.lt_or_ge t c with q | q
  · exact q
  · have e : t = c := by omega
    exact absurd (by unfold kd; rw [e, h.2.2.2.1, if_neg (by omega)]) hk
theorem kd_le (y : Nat → Nat) (n t : Nat) : kd y n t ≤ 9 := by
  unfold kd
  split
  · unfold tkK
    split
    · omega
    · split
      · split <;> omega
      · split
        · split
          · rename_i w h
            have := wIx_lt h
            omega
          · omega
        · split <;> omega
  · omega
theorem adv_x {S : St} {t : Nat} (hE : EvT y n c S) (g : gI_ S 61 1 = nI t) (ht : t ≤ c) : ∃ S', fX2_advance S = some S' ∧ Fr pRd S S' ∧ gI_ S' 61 2 = nI (kd y n t) ∧ gI_ S' 61 3 = nI (vl y n t) ∧ gI_ S' 61 4 = nI (tst_ y n t) ∧ gI_ S' 61 1 = nI (if t < c then t + 1 else t) ∧ gI_ S' 61 5 = gI_ S 61 5 := by
  obtain ⟨e1, e2, e3, e4, e5⟩ := hE
  obtain ⟨a1, a2, a3⟩ := e2 t (by omega)
  have f0 : Fr pRd S (pI_ (pI_ (pI_ S 61 2 (nI (kd y n t))) 61 3 (nI (vl y n t))) 61 4 (nI (tst_ y n t))) := Fr.pI rfl (Fr.pI rfl (Fr.pI rfl (Fr.refl _ _)))
  have start : fX2_advance S = (if gI_ S 56 5 - 1 ≤ gI_ S 61 1 then some (pI_ (pI_ (pI_ S 61 2 (nI (kd y n t))) 61 3 (nI (vl y n t))) 61 4 (nI (tst_ y n t))) else b1 (oI_ (pI_ (pI_ (pI_ S 61 2 (nI (kd y n t))) 61 3 (nI (vl y n t))) 61 4 (nI (tst_ y n t))) 61 1 (gI_ S 61 1 + 1)) fun S27 => some S27) := by
    unfold fX2_advance
    rw [g, rI_n (by omega) (by omega), b1_s, a1, oI_e, b1_s]
    have h1 : gI_ (pI_ S 61 2 (nI (kd y n t))) 61 1 = nI t := by simp only [gI_pI, gI_pL, gI_pA, gI_pB, gI_pR, gI_pW, gL_pI, gL_pL, gL_pA, gL_pB, gL_pR, gL_pW, aI_pI, aI_pL, aI_pA, aI_pB, aI_pR, aI_pW, aL_pI, aL_pL, aL_pA, aL_pB, aL_pR, aL_pW, gR_pI, gR_pL, gR_pA, gR_pB, gR_pR, gR_pW]; simpa using g
    have h2 : aI_ (pI_ S 61 2 (nI (kd y n t))) 59 t = nI (vl y n t) := a2
    rw [h1, rI_n (by omega) (by omega), b1_s, h2, oI_e, b1_s]
    have h3 : gI_ (pI_ (pI_ S 61 2 (nI (kd y n t))) 61 3 (nI (vl y n t))) 61 1 = nI t := by simp only [gI_pI, gI_pL, gI_pA, gI_pB, gI_pR, gI_pW, gL_pI, gL_pL, gL_pA, gL_pB, gL_pR, gL_pW, aI_pI, aI_pL, aI_pA, aI_pB, aI_pR, aI_pW, aL_pI, aL_pL, aL_pA, aL_pB, aL_pR, aL_pW, gR_pI, gR_pL, gR_pA, gR_pB, gR_pR, gR_pW]; simpa using g
    have h4 : aI_ (pI_ (pI_ S 61 2 (nI (kd y n t))) 61 3 (nI (vl y n t))) 60 t = nI (tst_ y n t) := a3
    rw [h3, rI_n (by omega) (by omega), b1_s, h4, oI_e, b1_s]
    have h5 : gI_ (pI_ (pI_ (pI_ S 61 2 (nI (kd y n t))) 61 3 (nI (vl y n t))) 61 4 (nI (tst_ y n t))) 61 1 = nI t := by simp only [gI_pI, gI_pL, gI_pA, gI_pB, gI_pR, gI_pW, gL_pI, gL_pL, gL_pA, gL_pB, gL_pR, gL_pW, aI_pI, aI_pL, aI_pA, aI_pB, aI_pR, aI_pW, aL_pI, aL_pL, aL_pA, aL_pB, aL_pR, aL_pW, gR_pI, gR_pL, gR_pA, gR_pB, gR_pR, gR_pW]; simpa using g
    have h6 : gI_ (pI_ (pI_ (pI_ S 61 2 (nI (kd y n t))) 61 3 (nI (vl y n t))) 61 4 (nI (tst_ y n t))) 56 5 = gI_ S 56 5 := by simp only [gI_pI, gI_pL, gI_pA, gI_pB, gI_pR, gI_pW, gL_pI, gL_pL, gL_pA, gL_pB, gL_pR, gL_pW, aI_pI, aI_pL, aI_pA, aI_pB, aI_pR, aI_pW, aL_pI, aL_pL, aL_pA, aL_pB, aL_pR, aL_pW, gR_pI, gR_pL, gR_pA, gR_pB, gR_pR, gR_pW]; simp
    rw [h5, h6]
  have ec : gI_ S 56 5 - 1 = nI c := by rw [e1]; exact (nI_sub (b := 1) (by omega)).trans (congrArg nI (by omega))
  have et : nI t + 1 = nI (t + 1) := nI_add _ 1
  rw [start, ec, g]
  by_cases q : t < c
  · rw [if_neg (nI_ge q (by omega)), oI_e, b1_s, et]
    refine ⟨_, rfl, Fr.pI rfl f0, ?_, ?_, ?_, ?_, ?_⟩
    · simp [gI_pI, gI_pL, gI_pA, gI_pB, gI_pR, gI_pW, gL_pI, gL_pL, gL_pA, gL_pB, gL_pR, gL_pW, aI_pI, aI_pL, aI_pA, aI_pB, aI_pR, aI_pW, aL_pI, aL_pL, aL_pA, aL_pB, aL_pR, aL_pW, gR_pI, gR_pL, gR_pA, gR_pB, gR_pR, gR_pW]
    · simp [gI_pI, gI_pL, gI_pA, gI_pB, gI_pR, gI_pW, gL_pI, gL_pL, gL_pA, gL_pB, gL_pR, gL_pW, aI_pI, aI_pL, aI_pA, aI_pB, aI_pR, aI_pW, aL_pI, aL_pL, aL_pA, aL_pB, aL_pR, aL_pW, gR_pI, gR_pL, gR_pA, gR_pB, gR_pR, gR_pW]
    · simp [gI_pI, gI_pL, gI_pA, gI_pB, gI_pR, gI_pW, gL_pI, gL_pL, gL_pA, gL_pB, gL_pR, gL_pW, aI_pI, aI_pL, aI_pA, aI_pB, aI_pR, aI_pW, aL_pI, aL_pL, aL_pA, aL_pB, aL_pR, aL_pW, gR_pI, gR_pL, gR_pA, gR_pB, gR_pR, gR_pW]
    · simp [gI_pI, gI_pL, gI_pA, gI_pB, gI_pR, gI_pW, gL_pI, gL_pL, gL_pA, gL_pB, gL_pR, gL_pW, aI_pI, aI_pL, aI_pA, aI_pB, aI_pR, aI_pW, aL_pI, aL_pL, aL_pA, aL_pB, aL_pR, aL_pW, gR_pI, gR_pL, gR_pA, gR_pB, gR_pR, gR_pW, q]
    · simp [gI_pI, gI_pL, gI_pA, gI_pB, gI_pR, gI_pW, gL_pI, gL_pL, gL_pA, gL_pB, gL_pR, gL_pW, aI_pI, aI_pL, aI_pA, aI_pB, aI_pR, aI_pW, aL_pI, aL_pL, aL_pA, aL_pB, aL_pR, aL_pW, gR_pI, gR_pL, gR_pA, gR_pB, gR_pR, gR_pW]
  · rw [if_pos (nI_le (by omega) (by omega))]
    refine ⟨_, rfl, f0, ?_, ?_, ?_, ?_, ?_⟩
    · simp [gI_pI, gI_pL, gI_pA, gI_pB, gI_pR, gI_pW, gL_pI, gL_pL, gL_pA, gL_pB, gL_pR, gL_pW, aI_pI, aI_pL, aI_pA, aI_pB, aI_pR, aI_pW, aL_pI, aL_pL, aL_pA, aL_pB, aL_pR, aL_pW, gR_pI, gR_pL, gR_pA, gR_pB, gR_pR, gR_pW]
    · simp [gI_pI, gI_pL, gI_pA, gI_pB, gI_pR, gI_pW, gL_pI, gL_pL, gL_pA, gL_pB, gL_pR, gL_pW, aI_pI, aI_pL, aI_pA, aI_pB, aI_pR, aI_pW, aL_pI, aL_pL, aL_pA, aL_pB, aL_pR, aL_pW, gR_pI, gR_pL, gR_pA, gR_pB, gR_pR, gR_pW]
    · simp [gI_pI, gI_pL, gI_pA, gI_pB, gI_pR, gI_pW, gL_pI, gL_pL, gL_pA, gL_pB, gL_pR, gL_pW, aI_pI, aI_pL, aI_pA, aI_pB, aI_pR, aI_pW, aL_pI, aL_pL, aL_pA, aL_pB, aL_pR, aL_pW, gR_pI, gR_pL, gR_pA, gR_pB, gR_pR, gR_pW]
    · simp only [gI_pI, gI_pL, gI_pA, gI_pB, gI_pR, gI_pW, gL_pI, gL_pL, gL_pA, gL_pB, gL_pR, gL_pW, aI_pI, aI_pL, aI_pA, aI_pB, aI_pR, aI_pW, aL_pI, aL_pL, aL_pA, aL_pB, aL_pR, aL_pW, gR_pI, gR_pL, gR_pA, gR_pB, gR_pR, gR_pW]; simpa [q] using g
    · simp [gI_pI, gI_pL, gI_pA, gI_pB, gI_pR, gI_pW, gL_pI, gL_pL, gL_pA, gL_pB, gL_pR, gL_pW, aI_pI, aI_pL, aI_pA, aI_pB, aI_pR, aI_pW, aL_pI, aL_pL, aL_pA, aL_pB, aL_pR, aL_pW, gR_pI, gR_pL, gR_pA, gR_pB, gR_pR, gR_pW]
theorem fail_x (S : St) (f : Int32) : fX2_fail S f = some (0, pI_ (pI_ S 61 5 f) 61 6 (gI_ S 61 4)) := by
  unfold fX2_fail
  rw [oI_e, b1_s, oI_e, b1_s]
  simp only [gI_pI, gI_pL, gI_pA, gI_pB, gI_pR, gI_pW, gL_pI, gL_pL, gL_pA, gL_pB, gL_pR, gL_pW, aI_pI, aI_pL, aI_pA, aI_pB, aI_pR, aI_pW, aL_pI, aL_pL, aL_pA, aL_pB, aL_pR, aL_pW, gR_pI, gR_pL, gR_pA, gR_pB, gR_pR, gR_pW]; simp
theorem fail_XF {S : St} {f s : Nat} (h : gI_ S 61 4 = nI s) : XF (pI_ (pI_ S 61 5 (nI f)) 61 6 (gI_ S 61 4)) f s := ⟨by simp [gI_pI, gI_pL, gI_pA, gI_pB, gI_pR, gI_pW, gL_pI, gL_pL, gL_pA, gL_pB, gL_pR, gL_pW, aI_pI, aI_pL, aI_pA, aI_pB, aI_pR, aI_pW, aL_pI, aL_pL, aL_pA, aL_pB, aL_pR, aL_pW, gR_pI, gR_pL, gR_pA, gR_pB, gR_pR, gR_pW], by simp only [gI_pI, gI_pL, gI_pA, gI_pB, gI_pR, gI_pW, gL_pI, gL_pL, gL_pA, gL_pB, gL_pR, gL_pW, aI_pI, aI_pL, aI_pA, aI_pB, aI_pR, aI_pW, aL_pI, aL_pL, aL_pA, aL_pB, aL_pR, aL_pW, gR_pI, gR_pL, gR_pA, gR_pB, gR_pR, gR_pW, and_self, if_true]; exact h⟩
theorem exp_x {S : St} {t k : Nat} (hE : EvT y n c S) (g : gI_ S 61 1 = nI t) (ht : t ≤ c) (h5 : gI_ S 61 5 = 0) (hk : 2 ≤ k ∧ k ≤ 9) : ∃ r S', fX2_expect S (nI k) = some (r, S') ∧ Fr pRd S S' ∧ ((kd y n t = k ∧ t < c ∧ r = 1 ∧ gI_ S' 61 3 = nI (vl y n t) ∧ gI_ S' 61 4 = nI (tst_ y n t) ∧ gI_ S' 61 1 = nI (t + 1) ∧ gI_ S' 61 5 = 0) ∨ (kd y n t = 1 ∧ r = 0 ∧ XF S' 1 (tst_ y n t)) ∨ (kd y n t ≠ 1 ∧ kd y n t ≠ k ∧ r = 0 ∧ XF S' 2 (tst_ y n t))) := by
  obtain ⟨S1, e, f, a2, a3, a4, a1, a5⟩ := adv_x hE g ht
  have kl := kd_le y n t
  unfold fX2_expect
  rw [e, b1_s, a2]
  by_cases q1 : kd y n t = 1
  · have q1' : nI (kd y n t) = (1 : Int32) := by rw [q1]; rfl
    rw [if_pos q1', fail_x, b1_s]
    exact ⟨0, _, rfl, Fr.pI rfl (Fr.pI rfl f), Or.inr (Or.inl ⟨q1, rfl, fail_XF (f := 1) a4⟩)⟩
  · have q1' : ¬ nI (kd y n t) = (1 : Int32) := fun z => q1 ((nI_eq (b := 1) (by omega) (by omega)).mp z)
    rw [if_neg q1']
    by_cases q2 : kd y n t = k
    · rw [if_pos (congrArg nI q2)]
      have tc := hE.kd0 ht (by omega)
      rw [if_pos tc] at a1
      exact ⟨1, S1, rfl, f, Or.inl ⟨q2, tc, rfl, a3, a4, a1, a5.trans h5⟩⟩
    · rw [if_neg (fun z => q2 ((nI_eq (by omega) (by omega)).mp z)), fail_x, b1_s]
      exact ⟨0, _, rfl, Fr.pI rfl (Fr.pI rfl f), Or.inr (Or.inr ⟨q1, q2, rfl, fail_XF (f := 2) a4⟩)⟩
end PRIM
