/-! reading laws: limit -/
section LIMIT
variable {y : Nat → Nat} {n c k1 many : Nat} {st : Nat → Option (Nat × Nat)} {ba : Nat → Nat} {le sc : Nat → Option Nat} {lim : Option Nat}
theorem Dft.limit {SX SM : St} {v : Nat} (h : Dft k1 SX SM st ba le sc lim many) : Dft k1 (pI_ (pI_ SX k1 5 (nI v)) k1 9 1) (pI_ SM 0 53 (nI v)) st ba le sc (some v) many := by
  obtain ⟨h1, h2, h3, h4, h5, h6⟩ := h
  refine ⟨fun i hi => ?_, ?_, ?_, ?_, ?_, ?_⟩
  · obtain ⟨⟨a1, a2, a3, a4, a5, a6, a7⟩, b⟩ := h1 i hi
    exact ⟨⟨a1, a2, a3, a4, a5, by simp only [gI_pI, gI_pL, gI_pA, gI_pB, gI_pR, gI_pW, gL_pI, gL_pL, gL_pA, gL_pB, gL_pR, gL_pW, aI_pI, aI_pL, aI_pA, aI_pB, aI_pR, aI_pW, aL_pI, aL_pL, aL_pA, aL_pB, aL_pR, aL_pW, gR_pI, gR_pL, gR_pA, gR_pB, gR_pR, gR_pW]; simpa using a6, by simp only [gI_pI, gI_pL, gI_pA, gI_pB, gI_pR, gI_pW, gL_pI, gL_pL, gL_pA, gL_pB, gL_pR, gL_pW, aI_pI, aI_pL, aI_pA, aI_pB, aI_pR, aI_pW, aL_pI, aL_pL, aL_pA, aL_pB, aL_pR, aL_pW, gR_pI, gR_pL, gR_pA, gR_pB, gR_pR, gR_pW]; simpa using a7⟩, b⟩
  · simp [gI_pI, gI_pL, gI_pA, gI_pB, gI_pR, gI_pW, gL_pI, gL_pL, gL_pA, gL_pB, gL_pR, gL_pW, aI_pI, aI_pL, aI_pA, aI_pB, aI_pR, aI_pW, aL_pI, aL_pL, aL_pA, aL_pB, aL_pR, aL_pW, gR_pI, gR_pL, gR_pA, gR_pB, gR_pR, gR_pW]
  · simp [gI_pI, gI_pL, gI_pA, gI_pB, gI_pR, gI_pW, gL_pI, gL_pL, gL_pA, gL_pB, gL_pR, gL_pW, aI_pI, aI_pL, aI_pA, aI_pB, aI_pR, aI_pW, aL_pI, aL_pL, aL_pA, aL_pB, aL_pR, aL_pW, gR_pI, gR_pL, gR_pA, gR_pB, gR_pR, gR_pW, zb]
  · simp [gI_pI, gI_pL, gI_pA, gI_pB, gI_pR, gI_pW, gL_pI, gL_pL, gL_pA, gL_pB, gL_pR, gL_pW, aI_pI, aI_pL, aI_pA, aI_pB, aI_pR, aI_pW, aL_pI, aL_pL, aL_pA, aL_pB, aL_pR, aL_pW, gR_pI, gR_pL, gR_pA, gR_pB, gR_pR, gR_pW, sv]
  · simp only [gI_pI, gI_pL, gI_pA, gI_pB, gI_pR, gI_pW, gL_pI, gL_pL, gL_pA, gL_pB, gL_pR, gL_pW, aI_pI, aI_pL, aI_pA, aI_pB, aI_pR, aI_pW, aL_pI, aL_pL, aL_pA, aL_pB, aL_pR, aL_pW, gR_pI, gR_pL, gR_pA, gR_pB, gR_pR, gR_pW]; simpa using h5
  · simp only [gI_pI, gI_pL, gI_pA, gI_pB, gI_pR, gI_pW, gL_pI, gL_pL, gL_pA, gL_pB, gL_pR, gL_pW, aI_pI, aI_pL, aI_pA, aI_pB, aI_pR, aI_pW, aL_pI, aL_pL, aL_pA, aL_pB, aL_pR, aL_pW, gR_pI, gR_pL, gR_pA, gR_pB, gR_pR, gR_pW]; simpa using h6
theorem j_limit {SX SM : St} {t : Nat} (hk : isPl k1) (hy : ∀ i, i < n → y i < 256) (hE : EvT y n c SX) (g : gI_ SX 61 1 = nI t) (ht : t ≤ c) (h5 : gI_ SX 61 5 = 0) (hM : HM y n t SM) (h0 : gI_ SM 0 41 = 0) (hD : Dft k1 SX SM st ba le sc none many) (hB : DfB st ba le sc none) : ∃ r SX' SM', fX2_readLimit k1 SX = some (r, SX') ∧ (b1 (fX12_number SM 0 50) fun q108 => b1 (oI_ q108.2 0 53 q108.1) fun S109 => some S109) = some SM' ∧ Fr (pDX k1) SX SX' ∧ Fr pDM SM SM' ∧ ((r = 1 ∧ Okk y n c k1 many t SX' SM') ∨ (r = 0 ∧ Bdd SX' SM')) := by
  have t10 : ¬ (1 : Int32) = 0 := by decide
  obtain ⟨r1, X1, v1, M1, e1, m1, fx1, fm1, o1⟩ := jn (lo := 0) (hi := 50) hy hE g ht h5 hM (by omega) (by omega)
  rw [mNum0 h0] at m1
  have e1' : fX2_expectNumber SX 0 50 = some (r1, X1) := e1
  have m1' : fX12_number SM 0 50 = some (v1, M1) := m1
  have k9 : gI_ SX k1 9 = 0 := hD.2.2.1
  unfold fX2_readLimit
  rw [if_pos k9, e1', b1_s, m1', b1_s, oI_e, b1_s]
  rcases o1 with ⟨rfl, tc, l1, l2, rfl, rfl, hg, x3, x4, x1, x5⟩ | ⟨rfl, f, pl, xf, mf⟩
  · have D := hD.fr hk fx1 (Fr.refl pLx M1)
    have k61 : k1 ≠ 61 := by rcases hk with rfl | rfl <;> omega
    have pk : ∀ b, pDX k1 k1 b = true := fun b => by simp [pDX]
    refine ⟨1, _, _, ?_, rfl, (fx1.mono pRd_DX).trans (Fr.pI (pk 9) (Fr.pI (pk 5) (Fr.refl _ _))), Fr.pI rfl (Fr.refl _ _), Or.inl ⟨rfl, t, st, ba, le, sc, some (vl y n t), by omega, tc, hg.fr (p := fun a b => a == 0 && b == 53) (Fr.pI rfl (Fr.refl _ _)) (fun b _ _ => by simp; omega), ?_, ?_, D.limit, hB.1, hB.2.1, fun v e => by obtain rfl := Option.some.inj e; exact l2⟩⟩
    · show (if (1 : Int32) = 0 then some (0, X1) else b1 (fX3_tellLimit k1 X1 (gI_ X1 61 3)) fun S22 => some (1, S22)) = _
      rw [if_neg t10, x3]
      unfold fX3_tellLimit
      rw [oI_e, b1_s, oI_e, b1_s, b1_s]
    · simp only [gI_pI, gI_pL, gI_pA, gI_pB, gI_pR, gI_pW, gL_pI, gL_pL, gL_pA, gL_pB, gL_pR, gL_pW, aI_pI, aI_pL, aI_pA, aI_pB, aI_pR, aI_pW, aL_pI, aL_pL, aL_pA, aL_pB, aL_pR, aL_pW, gR_pI, gR_pL, gR_pA, gR_pB, gR_pR, gR_pW]
      rw [if_neg (fun z => k61 z.1.symm), if_neg (fun z => k61 z.1.symm)]; exact x1
    · simp only [gI_pI, gI_pL, gI_pA, gI_pB, gI_pR, gI_pW, gL_pI, gL_pL, gL_pA, gL_pB, gL_pR, gL_pW, aI_pI, aI_pL, aI_pA, aI_pB, aI_pR, aI_pW, aL_pI, aL_pL, aL_pA, aL_pB, aL_pR, aL_pW, gR_pI, gR_pL, gR_pA, gR_pB, gR_pR, gR_pW]
      rw [if_neg (fun z => k61 z.1.symm), if_neg (fun z => k61 z.1.symm)]; exact x5
  · exact ⟨0, X1, _, rfl, rfl, fx1.mono pRd_DX, (fm1.mono pLx_DM).trans (Fr.pI rfl (Fr.refl _ _)), Or.inr ⟨rfl, f, pl, xf, by simp only [gI_pI, gI_pL, gI_pA, gI_pB, gI_pR, gI_pW, gL_pI, gL_pL, gL_pA, gL_pB, gL_pR, gL_pW, aI_pI, aI_pL, aI_pA, aI_pB, aI_pR, aI_pW, aL_pI, aL_pL, aL_pA, aL_pB, aL_pR, aL_pW, gR_pI, gR_pL, gR_pA, gR_pB, gR_pR, gR_pW]; simpa using mf.1, by simp only [gI_pI, gI_pL, gI_pA, gI_pB, gI_pR, gI_pW, gL_pI, gL_pL, gL_pA, gL_pB, gL_pR, gL_pW, aI_pI, aI_pL, aI_pA, aI_pB, aI_pR, aI_pW, aL_pI, aL_pL, aL_pA, aL_pB, aL_pR, aL_pW, gR_pI, gR_pL, gR_pA, gR_pB, gR_pR, gR_pW]; simpa using mf.2.1, mf.2.2⟩⟩
end LIMIT
