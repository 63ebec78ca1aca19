/-! reading laws: bar and least -/
section BAR
variable {y : Nat → Nat} {n c k1 many : Nat} {st : Nat → Option (Nat × Nat)} {ba : Nat → Nat} {le sc : Nat → Option Nat} {lim : Option Nat}
def mEq (a : Int32) (w23 : Int32 × St) : Option St := ((if gI_ w23.2 0 41 = 0 then b1 ((if a = w23.1 then some 0 else some 1) : Option (Int32)) fun w30 => b1 (fX12_wants w23.2 w30 3) fun S31 => some S31 else some w23.2) : Option (St))
def mB3 (a b : Int32) (w24 : St) : Option St := (if gI_ w24 0 41 = 0 then b1 (rI_ w24 36 8 a) fun x25 => b1 (wI_ w24 36 8 a (x25 ||| ((1 : Int32) <<< ((b : Int32) &&& 31)))) fun S26 => b1 (rI_ S26 36 8 b) fun x27 => b1 (wI_ S26 36 8 b (x27 ||| ((1 : Int32) <<< ((a : Int32) &&& 31)))) fun S28 => some S28 else some w24)
theorem bar_e (S : St) : fX12_readBar S = b1 (fX12_number S 0 7) fun q21 => b1 (fX12_goesOn q21.2) fun S22 => b1 (mNum S22 0 7) fun w23 => b1 (mEq q21.1 w23) fun w24 => mB3 q21.1 w23.1 w24 := rfl
def baS (ba : Nat → Nat) (a b : Nat) : Nat → Nat := fun i => if i = b then ba b ||| 2 ^ a else if i = a then ba a ||| 2 ^ b else ba i
theorem Dft.bar {SX SM : St} {a b : Nat} (h : Dft k1 SX SM st ba le sc lim many) (ha : a < 8) (hb : b < 8) (hab : a ≠ b) : Dft k1 (pA_ (pA_ SX (k1 + 3) a (nI (ba a ||| 2 ^ b))) (k1 + 3) b (nI (ba b ||| 2 ^ a))) (pA_ (pA_ SM 36 a (nI (ba a ||| 2 ^ b))) 36 b (nI (ba b ||| 2 ^ a))) st (baS ba a b) le sc lim many := by
  obtain ⟨h1, h2, h3, h4, h5, h6⟩ := h
  refine ⟨fun i hi => ?_, ?_, ?_, ?_, ?_, ?_⟩
  · obtain ⟨⟨a1, a2, a3, a4, a5, a6, a7⟩, b1', b2, b3, b4, b5⟩ := h1 i hi
    refine ⟨⟨?_, ?_, ?_, ?_, ?_, ?_, ?_⟩, ?_, ?_, ?_, ?_, ?_⟩
    · simp [gI_pI, gI_pL, gI_pA, gI_pB, gI_pR, gI_pW, gL_pI, gL_pL, gL_pA, gL_pB, gL_pR, gL_pW, aI_pI, aI_pL, aI_pA, aI_pB, aI_pR, aI_pW, aL_pI, aL_pL, aL_pA, aL_pB, aL_pR, aL_pW, gR_pI, gR_pL, gR_pA, gR_pB, gR_pR, gR_pW, a1]
    · simp [gI_pI, gI_pL, gI_pA, gI_pB, gI_pR, gI_pW, gL_pI, gL_pL, gL_pA, gL_pB, gL_pR, gL_pW, aI_pI, aI_pL, aI_pA, aI_pB, aI_pR, aI_pW, aL_pI, aL_pL, aL_pA, aL_pB, aL_pR, aL_pW, gR_pI, gR_pL, gR_pA, gR_pB, gR_pR, gR_pW, a2]
    · simp only [gI_pI, gI_pL, gI_pA, gI_pB, gI_pR, gI_pW, gL_pI, gL_pL, gL_pA, gL_pB, gL_pR, gL_pW, aI_pI, aI_pL, aI_pA, aI_pB, aI_pR, aI_pW, aL_pI, aL_pL, aL_pA, aL_pB, aL_pR, aL_pW, gR_pI, gR_pL, gR_pA, gR_pB, gR_pR, gR_pW, true_and]
      unfold baS
      by_cases z : i = b
      · simp [z]
      · by_cases z2 : i = a
        · simp [z2, hab]
        · simp [z, z2, a3]
    · simp [gI_pI, gI_pL, gI_pA, gI_pB, gI_pR, gI_pW, gL_pI, gL_pL, gL_pA, gL_pB, gL_pR, gL_pW, aI_pI, aI_pL, aI_pA, aI_pB, aI_pR, aI_pW, aL_pI, aL_pL, aL_pA, aL_pB, aL_pR, aL_pW, gR_pI, gR_pL, gR_pA, gR_pB, gR_pR, gR_pW, a4]
    · simp [gI_pI, gI_pL, gI_pA, gI_pB, gI_pR, gI_pW, gL_pI, gL_pL, gL_pA, gL_pB, gL_pR, gL_pW, aI_pI, aI_pL, aI_pA, aI_pB, aI_pR, aI_pW, aL_pI, aL_pL, aL_pA, aL_pB, aL_pR, aL_pW, gR_pI, gR_pL, gR_pA, gR_pB, gR_pR, gR_pW, a5]
    · simp [gI_pI, gI_pL, gI_pA, gI_pB, gI_pR, gI_pW, gL_pI, gL_pL, gL_pA, gL_pB, gL_pR, gL_pW, aI_pI, aI_pL, aI_pA, aI_pB, aI_pR, aI_pW, aL_pI, aL_pL, aL_pA, aL_pB, aL_pR, aL_pW, gR_pI, gR_pL, gR_pA, gR_pB, gR_pR, gR_pW, a6]
    · simp [gI_pI, gI_pL, gI_pA, gI_pB, gI_pR, gI_pW, gL_pI, gL_pL, gL_pA, gL_pB, gL_pR, gL_pW, aI_pI, aI_pL, aI_pA, aI_pB, aI_pR, aI_pW, aL_pI, aL_pL, aL_pA, aL_pB, aL_pR, aL_pW, gR_pI, gR_pL, gR_pA, gR_pB, gR_pR, gR_pW, a7]
    · simp [gI_pI, gI_pL, gI_pA, gI_pB, gI_pR, gI_pW, gL_pI, gL_pL, gL_pA, gL_pB, gL_pR, gL_pW, aI_pI, aI_pL, aI_pA, aI_pB, aI_pR, aI_pW, aL_pI, aL_pL, aL_pA, aL_pB, aL_pR, aL_pW, gR_pI, gR_pL, gR_pA, gR_pB, gR_pR, gR_pW, b1']
    · simp [gI_pI, gI_pL, gI_pA, gI_pB, gI_pR, gI_pW, gL_pI, gL_pL, gL_pA, gL_pB, gL_pR, gL_pW, aI_pI, aI_pL, aI_pA, aI_pB, aI_pR, aI_pW, aL_pI, aL_pL, aL_pA, aL_pB, aL_pR, aL_pW, gR_pI, gR_pL, gR_pA, gR_pB, gR_pR, gR_pW, b2]
    · simp only [gI_pI, gI_pL, gI_pA, gI_pB, gI_pR, gI_pW, gL_pI, gL_pL, gL_pA, gL_pB, gL_pR, gL_pW, aI_pI, aI_pL, aI_pA, aI_pB, aI_pR, aI_pW, aL_pI, aL_pL, aL_pA, aL_pB, aL_pR, aL_pW, gR_pI, gR_pL, gR_pA, gR_pB, gR_pR, gR_pW, true_and]
      unfold baS
      by_cases z : i = b
      · simp [z]
      · by_cases z2 : i = a
        · simp [z2, hab]
        · simp [z, z2, b3]
    · simp [gI_pI, gI_pL, gI_pA, gI_pB, gI_pR, gI_pW, gL_pI, gL_pL, gL_pA, gL_pB, gL_pR, gL_pW, aI_pI, aI_pL, aI_pA, aI_pB, aI_pR, aI_pW, aL_pI, aL_pL, aL_pA, aL_pB, aL_pR, aL_pW, gR_pI, gR_pL, gR_pA, gR_pB, gR_pR, gR_pW, b4]
    · simp [gI_pI, gI_pL, gI_pA, gI_pB, gI_pR, gI_pW, gL_pI, gL_pL, gL_pA, gL_pB, gL_pR, gL_pW, aI_pI, aI_pL, aI_pA, aI_pB, aI_pR, aI_pW, aL_pI, aL_pL, aL_pA, aL_pB, aL_pR, aL_pW, gR_pI, gR_pL, gR_pA, gR_pB, gR_pR, gR_pW, b5]
  · simp [gI_pI, gI_pL, gI_pA, gI_pB, gI_pR, gI_pW, gL_pI, gL_pL, gL_pA, gL_pB, gL_pR, gL_pW, aI_pI, aI_pL, aI_pA, aI_pB, aI_pR, aI_pW, aL_pI, aL_pL, aL_pA, aL_pB, aL_pR, aL_pW, gR_pI, gR_pL, gR_pA, gR_pB, gR_pR, gR_pW, h2]
  · simp [gI_pI, gI_pL, gI_pA, gI_pB, gI_pR, gI_pW, gL_pI, gL_pL, gL_pA, gL_pB, gL_pR, gL_pW, aI_pI, aI_pL, aI_pA, aI_pB, aI_pR, aI_pW, aL_pI, aL_pL, aL_pA, aL_pB, aL_pR, aL_pW, gR_pI, gR_pL, gR_pA, gR_pB, gR_pR, gR_pW, h3]
  · simp [gI_pI, gI_pL, gI_pA, gI_pB, gI_pR, gI_pW, gL_pI, gL_pL, gL_pA, gL_pB, gL_pR, gL_pW, aI_pI, aI_pL, aI_pA, aI_pB, aI_pR, aI_pW, aL_pI, aL_pL, aL_pA, aL_pB, aL_pR, aL_pW, gR_pI, gR_pL, gR_pA, gR_pB, gR_pR, gR_pW, h4]
  · simp [gI_pI, gI_pL, gI_pA, gI_pB, gI_pR, gI_pW, gL_pI, gL_pL, gL_pA, gL_pB, gL_pR, gL_pW, aI_pI, aI_pL, aI_pA, aI_pB, aI_pR, aI_pW, aL_pI, aL_pL, aL_pA, aL_pB, aL_pR, aL_pW, gR_pI, gR_pL, gR_pA, gR_pB, gR_pR, gR_pW, h5]
  · simp [gI_pI, gI_pL, gI_pA, gI_pB, gI_pR, gI_pW, gL_pI, gL_pL, gL_pA, gL_pB, gL_pR, gL_pW, aI_pI, aI_pL, aI_pA, aI_pB, aI_pR, aI_pW, aL_pI, aL_pL, aL_pA, aL_pB, aL_pR, aL_pW, gR_pI, gR_pL, gR_pA, gR_pB, gR_pR, gR_pW, h6]
theorem DfB.bar {a b : Nat} (h : DfB st ba le sc lim) (ha : a < 8) (hb : b < 8) : DfB st (baS ba a b) le sc lim :=
  ⟨fun i hi => ⟨(h.1 i hi).1, by
    have p8 : (256 : Nat) = 2 ^ 8 := by decide
    unfold baS
    split
    · rw [p8]; exact Nat.or_lt_two_pow (by rw [← p8]; exact (h.1 b hb).2.1) (Nat.pow_lt_pow_right (by omega) ha)
    · split
      · rw [p8]; exact Nat.or_lt_two_pow (by rw [← p8]; exact (h.1 a ha).2.1) (Nat.pow_lt_pow_right (by omega) hb)
      · exact (h.1 i hi).2.1, (h.1 i hi).2.2⟩, h.2⟩
theorem j_bar {SX SM : St} {t : Nat} (hk : isPl k1) (hn : n ≤ 200) (hy : ∀ i, i < n → y i < 256) (hE : EvT y n c SX) (g : gI_ SX 61 1 = nI t) (ht : t ≤ c) (h5 : gI_ SX 61 5 = 0) (hM : HM y n t SM) (h0 : gI_ SM 0 41 = 0) (hT : Tap SM 0 36 28 n y) (hD : Dft k1 SX SM st ba le sc lim many) (hB : DfB st ba le sc lim) : ∃ r SX' SM', fX2_readBar k1 SX = some (r, SX') ∧ fX12_readBar SM = some SM' ∧ Fr (pDX k1) SX SX' ∧ Fr pDM SM SM' ∧ ((r = 1 ∧ Okk y n c k1 many t SX' SM') ∨ (r = 0 ∧ Bdd SX' SM')) := by
  have t10 : ¬ (1 : Int32) = 0 := by decide
  obtain ⟨r1, X1, v1, M1, e1, m1, fx1, fm1, o1⟩ := jn (lo := 0) (hi := 7) hy hE g ht h5 hM (by omega) (by omega)
  rw [mNum0 h0] at m1
  have e1' : fX2_expectNumber SX 0 7 = some (r1, X1) := e1
  have m1' : fX12_number SM 0 7 = some (v1, M1) := m1
  rw [bar_e, m1', b1_s]
  unfold fX2_readBar
  rw [e1', b1_s]
  rcases o1 with ⟨rfl, tc, l1, l2, rfl, rfl, hg, x3, x4, x1, x5⟩ | ⟨rfl, f, pl, xf, mf⟩
  · obtain ⟨M2, em2, fm2, hM2⟩ := goes_m hT hn hy hg
    obtain ⟨r2, X2, v2, M3, e2, m2, fx2, fm3, o2⟩ := jn (lo := 0) (hi := 7) hy (hE.rd fx1) x1 (by omega) x5 hM2 (by omega) (by omega)
    have e2' : fX2_expectNumber X1 0 7 = some (r2, X2) := e2
    have m2' : mNum M2 0 7 = some (v2, M3) := m2
    show ∃ r SX' SM', (if (1 : Int32) = 0 then some (0, X1) else b1 (fX2_expectNumber X1 0 7) fun q22 => (if q22.1 = 0 then some (0, q22.2) else (if gI_ q22.2 61 3 = gI_ X1 61 3 then b1 (fX2_fail q22.2 3) fun q24 => b1 (bz_ q24.1) fun z25 => some (z25, q24.2) else b1 (fX3_tellBar k1 q22.2 (gI_ X1 61 3) (gI_ q22.2 61 3)) fun S23 => some (1, S23)))) = some (r, SX') ∧ (b1 (fX12_goesOn M1) fun S22 => b1 (mNum S22 0 7) fun w23 => b1 (mEq (nI (vl y n t)) w23) fun w24 => mB3 (nI (vl y n t)) w23.1 w24) = some SM' ∧ _
    rw [if_neg t10, e2', b1_s, em2, b1_s, m2', b1_s, x3]
    rcases o2 with ⟨rfl, tc2, l3, l4, rfl, rfl, hg2, z3, z4, z1, z5⟩ | ⟨rfl, f, pl, xf, mf⟩
    · show ∃ r SX' SM', (if (1 : Int32) = 0 then some (0, X2) else (if gI_ X2 61 3 = nI (vl y n t) then b1 (fX2_fail X2 3) fun q24 => b1 (bz_ q24.1) fun z25 => some (z25, q24.2) else b1 (fX3_tellBar k1 X2 (nI (vl y n t)) (gI_ X2 61 3)) fun S23 => some (1, S23))) = some (r, SX') ∧ (b1 (if gI_ M3 0 41 = 0 then b1 ((if nI (vl y n t) = nI (vl y n (t + 1)) then some 0 else some 1) : Option (Int32)) fun w30 => b1 (fX12_wants M3 w30 3) fun S31 => some S31 else some M3) fun w24 => mB3 (nI (vl y n t)) (nI (vl y n (t + 1))) w24) = some SM' ∧ _
      rw [if_neg t10, z3, if_pos hg2.1]
      by_cases q : vl y n t = vl y n (t + 1)
      · obtain ⟨M4, ew, fw, mw⟩ := want_f (f := 3) hg2.1 hg2.2.1 (by omega)
        have ew' : fX12_wants M3 0 3 = some M4 := ew
        rw [if_pos (congrArg nI q.symm), if_pos (congrArg nI q), b1_s, ew', b1_s, b1_s, fail_x, b1_s]
        exact ⟨0, _, M4, rfl, if_neg mw.ne, ((fx1.trans fx2).mono pRd_DX).trans ((Fr.pI (p := pRd) rfl (Fr.pI rfl (Fr.refl _ _))).mono pRd_DX), ((fm2.trans fw)).mono pLx_DM, Or.inr ⟨rfl, 3, _, fail_XF (f := 3) z4, mw⟩⟩
      · have FX : Fr pRd SX X2 := fx1.trans fx2
        have D3 := hD.fr hk FX fm2
        have i1 := D3.1 (vl y n t) (by omega)
        have i2 := D3.1 (vl y n (t + 1)) (by omega)
        have c1 : ¬ nI (vl y n (t + 1)) = nI (vl y n t) := fun z => q ((nI_eq (by omega) (by omega)).mp z).symm
        have c2 : ¬ nI (vl y n t) = nI (vl y n (t + 1)) := fun z => q ((nI_eq (by omega) (by omega)).mp z)
        have pk : ∀ j b, j ≤ 5 → pDX k1 (k1 + j) b = true := fun j b hj => by simp [pDX]; omega
        have k61 : k1 + 3 ≠ 61 := by rcases hk with rfl | rfl <;> omega
        rw [if_neg c1, if_neg c2, b1_s, wants1, b1_s, b1_s]
        refine ⟨1, _, _, ?_, ?_, (FX.mono pRd_DX).trans (Fr.pA (pk 3 _ (by omega)) (Fr.pA (pk 3 _ (by omega)) (Fr.refl _ _))), (fm2.mono pLx_DM).trans (Fr.pA rfl (Fr.pA rfl (Fr.refl _ _))), Or.inl ⟨rfl, t + 1, st, _, le, sc, lim, by omega, tc2, hg2.fr (p := fun a _ => decide (34 ≤ a)) (Fr.pA rfl (Fr.pA rfl (Fr.refl _ _))) (fun b _ _ => rfl), ?_, ?_, D3.bar (a := vl y n t) (b := vl y n (t + 1)) (by omega) (by omega) q, hB.bar (by omega) (by omega)⟩⟩
        · unfold fX3_tellBar
          have r2' : aI_ (pA_ X2 (k1 + 3) (vl y n t) (nI (ba (vl y n t) ||| 2 ^ (vl y n (t + 1))))) (k1 + 3) (vl y n (t + 1)) = nI (ba (vl y n (t + 1))) := by
            simp only [gI_pI, gI_pL, gI_pA, gI_pB, gI_pR, gI_pW, gL_pI, gL_pL, gL_pA, gL_pB, gL_pR, gL_pW, aI_pI, aI_pL, aI_pA, aI_pB, aI_pR, aI_pW, aL_pI, aL_pL, aL_pA, aL_pB, aL_pR, aL_pW, gR_pI, gR_pL, gR_pA, gR_pB, gR_pR, gR_pW]; rw [if_neg (fun z => q z.2.symm)]; exact i2.1.2.2.1
          rw [rI_n (by omega) (by omega), b1_s, i1.1.2.2.1, orm (by omega), wI_n (by omega) (by omega), b1_s, rI_n (by omega) (by omega), b1_s, r2', orm (by omega), wI_n (by omega) (by omega), b1_s, b1_s]
        · unfold mB3
          have r2' : aI_ (pA_ M3 36 (vl y n t) (nI (ba (vl y n t) ||| 2 ^ (vl y n (t + 1))))) 36 (vl y n (t + 1)) = nI (ba (vl y n (t + 1))) := by
            simp only [gI_pI, gI_pL, gI_pA, gI_pB, gI_pR, gI_pW, gL_pI, gL_pL, gL_pA, gL_pB, gL_pR, gL_pW, aI_pI, aI_pL, aI_pA, aI_pB, aI_pR, aI_pW, aL_pI, aL_pL, aL_pA, aL_pB, aL_pR, aL_pW, gR_pI, gR_pL, gR_pA, gR_pB, gR_pR, gR_pW]; rw [if_neg (fun z => q z.2.symm)]; exact i2.2.2.2.1
          rw [if_pos hg2.1, rI_n (by omega) (by omega), b1_s, i1.2.2.2.1, orm (by omega), wI_n (by omega) (by omega), b1_s, rI_n (by omega) (by omega), b1_s, r2', orm (by omega), wI_n (by omega) (by omega), b1_s]
        · exact z1
        · exact z5
    · refine ⟨0, X2, M3, rfl, ?_, (fx1.trans fx2).mono pRd_DX, (fm2.trans fm3).mono pLx_DM, Or.inr ⟨rfl, f, pl, xf, mf⟩⟩
      show (b1 (if gI_ M3 0 41 = 0 then b1 ((if nI (vl y n t) = v2 then some 0 else some 1) : Option (Int32)) fun w30 => b1 (fX12_wants M3 w30 3) fun S31 => some S31 else some M3) fun w24 => mB3 (nI (vl y n t)) v2 w24) = _
      rw [if_neg mf.ne, b1_s]
      exact if_neg mf.ne
  · refine ⟨0, X1, M1, rfl, ?_, fx1.mono pRd_DX, fm1.mono pLx_DM, Or.inr ⟨rfl, f, pl, xf, mf⟩⟩
    show (b1 (fX12_goesOn M1) fun S22 => b1 (mNum S22 0 7) fun w23 => b1 (mEq v1 w23) fun w24 => mB3 v1 w23.1 w24) = _
    rw [goes_f mf, b1_s, mNumF mf, b1_s]
    show (b1 (if gI_ M1 0 41 = 0 then _ else some M1) fun w24 => mB3 v1 0 w24) = _
    rw [if_neg mf.ne, b1_s]
    exact if_neg mf.ne
end BAR
