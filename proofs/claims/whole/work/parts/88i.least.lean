/-! reading laws: least -/
section LEAST
variable {y : Nat → Nat} {n c k1 many : Nat} {st : Nat → Option (Nat × Nat)} {ba : Nat → Nat} {le sc : Nat → Option Nat} {lim : Option Nat}
def mL3 (a : Int32) (w24 : Int32 × St) : Option St := (if gI_ w24.2 0 41 = 0 then b1 (wI_ w24.2 37 8 a w24.1) fun S25 => some S25 else some w24.2)
theorem rleast_e (S : St) : fX12_readLeast S = b1 (fX12_letter S) fun q21 => b1 (mDup 37 q21) fun w22 => b1 (fX12_goesOn w22) fun S23 => b1 (mNum S23 0 5) fun w24 => mL3 q21.1 w24 := rfl
theorem rleast_f {S : St} {f pl : Nat} {v : Int32} (h : MF S f pl) : (b1 (mDup 37 (v, S)) fun w22 => b1 (fX12_goesOn w22) fun S23 => b1 (mNum S23 0 5) fun w24 => mL3 v w24) = some S := by
  rw [dup_f h, b1_s, goes_f h, b1_s, mNumF h, b1_s]
  exact if_neg h.ne
theorem Dft.least {SX SM : St} {v a : Nat} (h : Dft k1 SX SM st ba le sc lim many) (hv : v < 8) : Dft k1 (pI_ (pA_ SX (k1 + 4) v (nI a)) k1 8 (gI_ SX k1 8 ||| ((1 : Int32) <<< (nI v &&& 31)))) (pA_ SM 37 v (nI a)) st ba (fun i => if i = v then some a else le i) sc lim many := by
  obtain ⟨h1, h2, h3, h4, h5, h6⟩ := h
  refine ⟨fun i hi => ?_, ?_, ?_, ?_, ?_, ?_⟩
  · obtain ⟨⟨a1, a2, a3, a4, a5, a6, a7⟩, b1', b2, b3, b4, b5⟩ := h1 i hi
    refine ⟨⟨?_, ?_, ?_, ?_, ?_, ?_, ?_⟩, ?_, ?_, ?_, ?_, ?_⟩
    · simp [gI_pI, gI_pL, gI_pA, gI_pB, gI_pR, gI_pW, gL_pI, gL_pL, gL_pA, gL_pB, gL_pR, gL_pW, aI_pI, aI_pL, aI_pA, aI_pB, aI_pR, aI_pW, aL_pI, aL_pL, aL_pA, aL_pB, aL_pR, aL_pW, gR_pI, gR_pL, gR_pA, gR_pB, gR_pR, gR_pW, a1]
    · simp [gI_pI, gI_pL, gI_pA, gI_pB, gI_pR, gI_pW, gL_pI, gL_pL, gL_pA, gL_pB, gL_pR, gL_pW, aI_pI, aI_pL, aI_pA, aI_pB, aI_pR, aI_pW, aL_pI, aL_pL, aL_pA, aL_pB, aL_pR, aL_pW, gR_pI, gR_pL, gR_pA, gR_pB, gR_pR, gR_pW, a2]
    · simp [gI_pI, gI_pL, gI_pA, gI_pB, gI_pR, gI_pW, gL_pI, gL_pL, gL_pA, gL_pB, gL_pR, gL_pW, aI_pI, aI_pL, aI_pA, aI_pB, aI_pR, aI_pW, aL_pI, aL_pL, aL_pA, aL_pB, aL_pR, aL_pW, gR_pI, gR_pL, gR_pA, gR_pB, gR_pR, gR_pW, a3]
    · by_cases z : i = v <;> simp [gI_pI, gI_pL, gI_pA, gI_pB, gI_pR, gI_pW, gL_pI, gL_pL, gL_pA, gL_pB, gL_pR, gL_pW, aI_pI, aI_pL, aI_pA, aI_pB, aI_pR, aI_pW, aL_pI, aL_pL, aL_pA, aL_pB, aL_pR, aL_pW, gR_pI, gR_pL, gR_pA, gR_pB, gR_pR, gR_pW, z, a4]
    · simp [gI_pI, gI_pL, gI_pA, gI_pB, gI_pR, gI_pW, gL_pI, gL_pL, gL_pA, gL_pB, gL_pR, gL_pW, aI_pI, aI_pL, aI_pA, aI_pB, aI_pR, aI_pW, aL_pI, aL_pL, aL_pA, aL_pB, aL_pR, aL_pW, gR_pI, gR_pL, gR_pA, gR_pB, gR_pR, gR_pW, a5]
    · simp [gI_pI, gI_pL, gI_pA, gI_pB, gI_pR, gI_pW, gL_pI, gL_pL, gL_pA, gL_pB, gL_pR, gL_pW, aI_pI, aI_pL, aI_pA, aI_pB, aI_pR, aI_pW, aL_pI, aL_pL, aL_pA, aL_pB, aL_pR, aL_pW, gR_pI, gR_pL, gR_pA, gR_pB, gR_pR, gR_pW, a6]
    · simp only [gI_pI, gI_pL, gI_pA, gI_pB, gI_pR, gI_pW, gL_pI, gL_pL, gL_pA, gL_pB, gL_pR, gL_pW, aI_pI, aI_pL, aI_pA, aI_pB, aI_pR, aI_pW, aL_pI, aL_pL, aL_pA, aL_pB, aL_pR, aL_pW, gR_pI, gR_pL, gR_pA, gR_pB, gR_pR, gR_pW, and_self, if_true]
      rw [b_or, a7, one_shl v (by omega) (by omega)]
      by_cases z : i = v <;> simp [z]
    · simp [gI_pI, gI_pL, gI_pA, gI_pB, gI_pR, gI_pW, gL_pI, gL_pL, gL_pA, gL_pB, gL_pR, gL_pW, aI_pI, aI_pL, aI_pA, aI_pB, aI_pR, aI_pW, aL_pI, aL_pL, aL_pA, aL_pB, aL_pR, aL_pW, gR_pI, gR_pL, gR_pA, gR_pB, gR_pR, gR_pW, b1']
    · simp [gI_pI, gI_pL, gI_pA, gI_pB, gI_pR, gI_pW, gL_pI, gL_pL, gL_pA, gL_pB, gL_pR, gL_pW, aI_pI, aI_pL, aI_pA, aI_pB, aI_pR, aI_pW, aL_pI, aL_pL, aL_pA, aL_pB, aL_pR, aL_pW, gR_pI, gR_pL, gR_pA, gR_pB, gR_pR, gR_pW, b2]
    · simp [gI_pI, gI_pL, gI_pA, gI_pB, gI_pR, gI_pW, gL_pI, gL_pL, gL_pA, gL_pB, gL_pR, gL_pW, aI_pI, aI_pL, aI_pA, aI_pB, aI_pR, aI_pW, aL_pI, aL_pL, aL_pA, aL_pB, aL_pR, aL_pW, gR_pI, gR_pL, gR_pA, gR_pB, gR_pR, gR_pW, b3]
    · by_cases z : i = v
      · simp [gI_pI, gI_pL, gI_pA, gI_pB, gI_pR, gI_pW, gL_pI, gL_pL, gL_pA, gL_pB, gL_pR, gL_pW, aI_pI, aI_pL, aI_pA, aI_pB, aI_pR, aI_pW, aL_pI, aL_pL, aL_pA, aL_pB, aL_pR, aL_pW, gR_pI, gR_pL, gR_pA, gR_pB, gR_pR, gR_pW, z, sv]
      · simp [gI_pI, gI_pL, gI_pA, gI_pB, gI_pR, gI_pW, gL_pI, gL_pL, gL_pA, gL_pB, gL_pR, gL_pW, aI_pI, aI_pL, aI_pA, aI_pB, aI_pR, aI_pW, aL_pI, aL_pL, aL_pA, aL_pB, aL_pR, aL_pW, gR_pI, gR_pL, gR_pA, gR_pB, gR_pR, gR_pW, z, b4]
    · simp [gI_pI, gI_pL, gI_pA, gI_pB, gI_pR, gI_pW, gL_pI, gL_pL, gL_pA, gL_pB, gL_pR, gL_pW, aI_pI, aI_pL, aI_pA, aI_pB, aI_pR, aI_pW, aL_pI, aL_pL, aL_pA, aL_pB, aL_pR, aL_pW, gR_pI, gR_pL, gR_pA, gR_pB, gR_pR, gR_pW, b5]
  · simp [gI_pI, gI_pL, gI_pA, gI_pB, gI_pR, gI_pW, gL_pI, gL_pL, gL_pA, gL_pB, gL_pR, gL_pW, aI_pI, aI_pL, aI_pA, aI_pB, aI_pR, aI_pW, aL_pI, aL_pL, aL_pA, aL_pB, aL_pR, aL_pW, gR_pI, gR_pL, gR_pA, gR_pB, gR_pR, gR_pW, h2]
  · simp [gI_pI, gI_pL, gI_pA, gI_pB, gI_pR, gI_pW, gL_pI, gL_pL, gL_pA, gL_pB, gL_pR, gL_pW, aI_pI, aI_pL, aI_pA, aI_pB, aI_pR, aI_pW, aL_pI, aL_pL, aL_pA, aL_pB, aL_pR, aL_pW, gR_pI, gR_pL, gR_pA, gR_pB, gR_pR, gR_pW, h3]
  · simp [gI_pI, gI_pL, gI_pA, gI_pB, gI_pR, gI_pW, gL_pI, gL_pL, gL_pA, gL_pB, gL_pR, gL_pW, aI_pI, aI_pL, aI_pA, aI_pB, aI_pR, aI_pW, aL_pI, aL_pL, aL_pA, aL_pB, aL_pR, aL_pW, gR_pI, gR_pL, gR_pA, gR_pB, gR_pR, gR_pW, h4]
  · simp [gI_pI, gI_pL, gI_pA, gI_pB, gI_pR, gI_pW, gL_pI, gL_pL, gL_pA, gL_pB, gL_pR, gL_pW, aI_pI, aI_pL, aI_pA, aI_pB, aI_pR, aI_pW, aL_pI, aL_pL, aL_pA, aL_pB, aL_pR, aL_pW, gR_pI, gR_pL, gR_pA, gR_pB, gR_pR, gR_pW, h5]
  · simp [gI_pI, gI_pL, gI_pA, gI_pB, gI_pR, gI_pW, gL_pI, gL_pL, gL_pA, gL_pB, gL_pR, gL_pW, aI_pI, aI_pL, aI_pA, aI_pB, aI_pR, aI_pW, aL_pI, aL_pL, aL_pA, aL_pB, aL_pR, aL_pW, gR_pI, gR_pL, gR_pA, gR_pB, gR_pR, gR_pW, h6]
theorem DfB.least {v a : Nat} (h : DfB st ba le sc lim) (h1 : a ≤ 5) : DfB st ba (fun i => if i = v then some a else le i) sc lim :=
  ⟨fun i hi => ⟨(h.1 i hi).1, (h.1 i hi).2.1, fun x e => by
    by_cases q : i = v
    · simp [q] at e
      omega
    · simp [q] at e
      exact (h.1 i hi).2.2 x e⟩, h.2⟩
theorem j_least {SX SM : St} {t : Nat} (hk : isPl k1) (hn : n ≤ 200) (hy : ∀ i, i < n → y i < 256) (hE : EvT y n c SX) (g : gI_ SX 61 1 = nI t) (ht : t ≤ c) (h5 : gI_ SX 61 5 = 0) (hM : HM y n t SM) (h0 : gI_ SM 0 41 = 0) (hT : Tap SM 0 36 28 n y) (hD : Dft k1 SX SM st ba le sc lim many) (hB : DfB st ba le sc lim) : ∃ r SX' SM', fX2_readLeast k1 SX = some (r, SX') ∧ fX12_readLeast SM = some SM' ∧ Fr (pDX k1) SX SX' ∧ Fr pDM SM SM' ∧ ((r = 1 ∧ Okk y n c k1 many t SX' SM') ∨ (r = 0 ∧ Bdd SX' SM')) := by
  have t10 : ¬ (1 : Int32) = 0 := by decide
  obtain ⟨r1, X1, v1, M1, e1, m1, fx1, fm1, o1⟩ := jl hE g ht h5 hM
  rw [mLet0 h0] at m1
  rw [rleast_e, m1, b1_s]
  unfold fX2_readLeast
  rw [e1, b1_s]
  rcases o1 with ⟨rfl, tc, l2, rfl, rfl, hg, x3, x4, x1, x5⟩ | ⟨rfl, f, pl, xf, mf⟩
  · have D1 := hD.fr hk fx1 (Fr.refl pLx M1)
    obtain ⟨⟨a1, a2, a3, a4, a5, a6, a7⟩, b34, b35, b36, b37, b38⟩ := D1.1 (vl y n t) (by omega)
    have hS : fX3_hasLeast k1 X1 (nI (vl y n t)) = some (zb (le (vl y n t)).isSome) := by
      unfold fX3_hasLeast
      rw [bit1_i (by omega), a7]
      cases (le (vl y n t)).isSome <;> rfl
    show ∃ r SX' SM', (if (1 : Int32) = 0 then some (0, X1) else b1 (fX3_hasLeast k1 X1 (gI_ X1 61 3)) fun x22 => (if x22 = 0 then b1 (fX2_expectNumber X1 0 5) fun q23 => (if q23.1 = 0 then some (0, q23.2) else b1 (fX3_tellLeast k1 q23.2 (gI_ X1 61 3) (gI_ q23.2 61 3)) fun S24 => some (1, S24)) else b1 (fX2_fail X1 4) fun q26 => b1 (bz_ q26.1) fun z27 => some (z27, q26.2))) = some (r, SX') ∧ _
    rw [if_neg t10, x3, hS, b1_s]
    cases q : le (vl y n t) with
    | some a =>
      have n4 : ¬ aI_ M1 37 (vl y n t) = -4 := by
        rw [b37, q]
        have := (hB.1 (vl y n t) (by omega)).2.2 a q
        exact fun z => (m4_ne (a := a) (by omega)).mp z
      obtain ⟨M2, em, fm, mf⟩ := dup_yes hg.1 hg.2.1 (by omega) n4
      have tl := rleast_f (v := nI (vl y n t)) mf
      rw [dup_f mf] at tl
      rw [em, if_neg (by simp [zb] : ¬ zb (some a).isSome = 0), fail_x, b1_s]
      exact ⟨0, _, M2, rfl, tl, (fx1.mono pRd_DX).trans ((Fr.pI (p := pRd) rfl (Fr.pI rfl (Fr.refl _ _))).mono pRd_DX), fm.mono pLx_DM, Or.inr ⟨rfl, 4, _, fail_XF (f := 4) x4, mf⟩⟩
    | none =>
      have y4 : aI_ M1 37 (vl y n t) = -4 := by rw [b37, q]; rfl
      obtain ⟨M2, em2, fm2, hM2⟩ := goes_m hT hn hy hg
      obtain ⟨r2, X2, v2, M3, e2, m2, fx2, fm3, o2⟩ := jn (lo := 0) (hi := 5) hy (hE.rd fx1) x1 (by omega) x5 hM2 (by omega) (by omega)
      have e2' : fX2_expectNumber X1 0 5 = some (r2, X2) := e2
      have m2' : mNum M2 0 5 = some (v2, M3) := m2
      rw [dup_no hg.1 (by omega) y4, b1_s, em2, b1_s, m2', b1_s, if_pos (by rfl : zb (none : Option Nat).isSome = 0), e2', b1_s]
      rcases o2 with ⟨rfl, tc2, l3, l4, rfl, rfl, hg2, z3, z4, z1, z5⟩ | ⟨rfl, f, pl, xf, mf⟩
      · have FX : Fr pRd SX X2 := fx1.trans fx2
        have D3 := hD.fr hk FX fm2
        have pk : ∀ j b, j ≤ 5 → pDX k1 (k1 + j) b = true := fun j b hj => by simp [pDX]; omega
        have k61 : k1 ≠ 61 := by rcases hk with rfl | rfl <;> omega
        refine ⟨1, _, _, ?_, ?_, (FX.mono pRd_DX).trans (Fr.pI (pk 0 8 (by omega)) (Fr.pA (pk 4 _ (by omega)) (Fr.refl _ _))), (fm2.mono pLx_DM).trans (Fr.pA rfl (Fr.refl _ _)), Or.inl ⟨rfl, t + 1, st, ba, _, sc, lim, by omega, tc2, hg2.fr (p := fun a _ => decide (34 ≤ a)) (Fr.pA rfl (Fr.refl _ _)) (fun b _ _ => rfl), ?_, ?_, D3.least (v := vl y n t) (a := vl y n (t + 1)) (by omega), hB.least l4⟩⟩
        · show (if (1 : Int32) = 0 then some (0, X2) else b1 (fX3_tellLeast k1 X2 (nI (vl y n t)) (gI_ X2 61 3)) fun S24 => some (1, S24)) = _
          rw [if_neg t10, z3]
          unfold fX3_tellLeast
          rw [wI_n (by omega) (by omega), b1_s, oI_e, b1_s, b1_s]
          rfl
        · show (if gI_ M3 0 41 = 0 then b1 (wI_ M3 37 8 (nI (vl y n t)) (nI (vl y n (t + 1)))) fun S25 => some S25 else some M3) = _
          rw [if_pos hg2.1, wI_n (by omega) (by omega), b1_s]
        · simp only [gI_pI, gI_pL, gI_pA, gI_pB, gI_pR, gI_pW, gL_pI, gL_pL, gL_pA, gL_pB, gL_pR, gL_pW, aI_pI, aI_pL, aI_pA, aI_pB, aI_pR, aI_pW, aL_pI, aL_pL, aL_pA, aL_pB, aL_pR, aL_pW, gR_pI, gR_pL, gR_pA, gR_pB, gR_pR, gR_pW]
          rw [if_neg (fun z => k61 z.1.symm)]; exact z1
        · simp only [gI_pI, gI_pL, gI_pA, gI_pB, gI_pR, gI_pW, gL_pI, gL_pL, gL_pA, gL_pB, gL_pR, gL_pW, aI_pI, aI_pL, aI_pA, aI_pB, aI_pR, aI_pW, aL_pI, aL_pL, aL_pA, aL_pB, aL_pR, aL_pW, gR_pI, gR_pL, gR_pA, gR_pB, gR_pR, gR_pW]
          rw [if_neg (fun z => k61 z.1.symm)]; exact z5
      · exact ⟨0, X2, M3, rfl, if_neg mf.ne, (fx1.trans fx2).mono pRd_DX, (fm2.trans fm3).mono pLx_DM, Or.inr ⟨rfl, f, pl, xf, mf⟩⟩
  · exact ⟨0, X1, M1, rfl, rleast_f (v := v1) mf, fx1.mono pRd_DX, fm1.mono pLx_DM, Or.inr ⟨rfl, f, pl, xf, mf⟩⟩
end LEAST
