/-! reading laws: a law's end -/
section LAW
variable {y : Nat → Nat} {n c k1 many : Nat}
def mTail (w25 : St) : Option St := b1 (fX12_goesOn w25) fun S26 => b1 (mEnd S26) fun w27 => b1 (fX12_goesOn w27) fun S28 => b1 (oI_ S28 0 56 ((gI_ S28 0 56) + 1)) fun S29 => some S29
def xTail (k1 : Nat) (S : St) : Option (Int32 × St) := b1 (fX2_expect S 4) fun q47 => (if q47.1 = 0 then some (0, q47.2) else b1 (oI_ q47.2 k1 6 ((gI_ q47.2 k1 6) + 1)) fun S48 => some (1, S48))
def Lok (y : Nat → Nat) (n c k1 many t : Nat) (SX SM : St) : Prop := ∃ t' st ba le sc lim, t < t' ∧ t' ≤ c ∧ HM y n t' SM ∧ gI_ SX 61 1 = nI t' ∧ gI_ SX 61 5 = 0 ∧ Dft k1 SX SM st ba le sc lim many ∧ DfB st ba le sc lim
theorem HM.fr {p : Nat → Nat → Bool} {t : Nat} {S S' : St} (h : HM y n t S) (hf : Fr p S S') (hp : ∀ b, 37 ≤ b → b ≤ 42 → p 0 b = false) : HM y n t S' := by
  unfold HM LxR at h ⊢
  rw [hf.gI (hp 37 (by omega) (by omega)), hf.gI (hp 38 (by omega) (by omega)), hf.gI (hp 39 (by omega) (by omega)), hf.gI (hp 40 (by omega) (by omega)), hf.gI (hp 41 (by omega) (by omega)), hf.gI (hp 42 (by omega) (by omega))]
  exact h
theorem tail_f {S : St} {f pl : Nat} (h : MF S f pl) : ∃ S', mTail S = some S' ∧ Fr pDM S S' ∧ MF S' f pl := by
  refine ⟨pI_ S 0 56 (gI_ S 0 56 + 1), ?_, Fr.pI rfl (Fr.refl _ _), by simp only [gI_pI, gI_pL, gI_pA, gI_pB, gI_pR, gI_pW, gL_pI, gL_pL, gL_pA, gL_pB, gL_pR, gL_pW, aI_pI, aI_pL, aI_pA, aI_pB, aI_pR, aI_pW, aL_pI, aL_pL, aL_pA, aL_pB, aL_pR, aL_pW, gR_pI, gR_pL, gR_pA, gR_pB, gR_pR, gR_pW]; simpa using h.1, by simp only [gI_pI, gI_pL, gI_pA, gI_pB, gI_pR, gI_pW, gL_pI, gL_pL, gL_pA, gL_pB, gL_pR, gL_pW, aI_pI, aI_pL, aI_pA, aI_pB, aI_pR, aI_pW, aL_pI, aL_pL, aL_pA, aL_pB, aL_pR, aL_pW, gR_pI, gR_pL, gR_pA, gR_pB, gR_pR, gR_pW]; simpa using h.2.1, h.2.2⟩
  unfold mTail
  rw [goes_f h, b1_s]
  have : mEnd S = some S := if_neg h.ne
  rw [this, b1_s, goes_f h, b1_s, oI_e, b1_s]
theorem j_tail {SX SM : St} {t : Nat} (hk : isPl k1) (hn : n ≤ 200) (hy : ∀ i, i < n → y i < 256) (hE : EvT y n c SX) (hT : Tap SM 0 36 28 n y) (hO : Okk y n c k1 many t SX SM) : ∃ r SX' SM', xTail k1 SX = some (r, SX') ∧ mTail SM = some SM' ∧ Fr (pDX k1) SX SX' ∧ Fr pDM SM SM' ∧ ((r = 1 ∧ Lok y n c k1 (many + 1) t SX' SM') ∨ (r = 0 ∧ Bdd SX' SM')) := by
  have t10 : ¬ (1 : Int32) = 0 := by decide
  have t00 : (0 : Int32) = 0 := rfl
  obtain ⟨t', st, ba, le, sc, lim, o1, o2, hg, o4, o5, hD, hB⟩ := hO
  obtain ⟨M1, em1, fm1, hM1⟩ := goes_m hT hn hy hg
  have hT1 : Tap M1 0 36 28 n y := hT.fr fm1 rfl (fun j => rfl)
  obtain ⟨r, X1, M2, e1, m1, fx1, fm2, oo⟩ := js hE o4 (by omega) o5 hM1
  unfold xTail
  rw [e1, b1_s]
  rcases oo with ⟨rfl, tc, rfl, hg2, x1, x5⟩ | ⟨rfl, f, pl, xf, mf⟩
  · obtain ⟨M3, em3, fm3, hM3⟩ := goes_m hT1 hn hy hg2
    have D := hD.fr hk fx1 (fm1.trans fm3)
    have k61 : k1 ≠ 61 := by rcases hk with rfl | rfl <;> omega
    have ex : gI_ X1 k1 6 + 1 = nI (many + 1) := by rw [D.2.2.2.2.1]; exact nI_add _ 1
    have em : gI_ M3 0 56 + 1 = nI (many + 1) := by rw [D.2.2.2.2.2]; exact nI_add _ 1
    refine ⟨1, pI_ X1 k1 6 (nI (many + 1)), pI_ M3 0 56 (nI (many + 1)), ?_, ?_, (fx1.mono pRd_DX).trans (Fr.pI (by simp [pDX]) (Fr.refl _ _)), ((fm1.trans fm3).mono pLx_DM).trans (Fr.pI rfl (Fr.refl _ _)), Or.inl ⟨rfl, t' + 1 + 1, st, ba, le, sc, lim, by omega, by omega, hM3.fr (p := fun a b => a == 0 && b == 56) (Fr.pI rfl (Fr.refl _ _)) (fun b _ _ => by simp; omega), ?_, ?_, ?_, hB⟩⟩
    · show (if (1 : Int32) = 0 then some (0, X1) else b1 (oI_ X1 k1 6 ((gI_ X1 k1 6) + 1)) fun S48 => some (1, S48)) = _
      rw [if_neg t10, ex, oI_e, b1_s]
    · unfold mTail
      rw [em1, b1_s, m1, b1_s, em3, b1_s, em, oI_e, b1_s]
    · simp only [gI_pI, gI_pL, gI_pA, gI_pB, gI_pR, gI_pW, gL_pI, gL_pL, gL_pA, gL_pB, gL_pR, gL_pW, aI_pI, aI_pL, aI_pA, aI_pB, aI_pR, aI_pW, aL_pI, aL_pL, aL_pA, aL_pB, aL_pR, aL_pW, gR_pI, gR_pL, gR_pA, gR_pB, gR_pR, gR_pW]
      rw [if_neg (fun z => k61 z.1.symm)]; exact x1
    · simp only [gI_pI, gI_pL, gI_pA, gI_pB, gI_pR, gI_pW, gL_pI, gL_pL, gL_pA, gL_pB, gL_pR, gL_pW, aI_pI, aI_pL, aI_pA, aI_pB, aI_pR, aI_pW, aL_pI, aL_pL, aL_pA, aL_pB, aL_pR, aL_pW, gR_pI, gR_pL, gR_pA, gR_pB, gR_pR, gR_pW]
      rw [if_neg (fun z => k61 z.1.symm)]; exact x5
    · obtain ⟨h1, h2, h3, h4, h5, h6⟩ := D
      refine ⟨fun i hi => ?_, ?_, ?_, ?_, ?_, ?_⟩
      · obtain ⟨⟨a1, a2, a3, a4, a5, a6, a7⟩, b⟩ := h1 i hi
        exact ⟨⟨a1, a2, a3, a4, a5, by simp only [gI_pI, gI_pL, gI_pA, gI_pB, gI_pR, gI_pW, gL_pI, gL_pL, gL_pA, gL_pB, gL_pR, gL_pW, aI_pI, aI_pL, aI_pA, aI_pB, aI_pR, aI_pW, aL_pI, aL_pL, aL_pA, aL_pB, aL_pR, aL_pW, gR_pI, gR_pL, gR_pA, gR_pB, gR_pR, gR_pW]; simpa using a6, by simp only [gI_pI, gI_pL, gI_pA, gI_pB, gI_pR, gI_pW, gL_pI, gL_pL, gL_pA, gL_pB, gL_pR, gL_pW, aI_pI, aI_pL, aI_pA, aI_pB, aI_pR, aI_pW, aL_pI, aL_pL, aL_pA, aL_pB, aL_pR, aL_pW, gR_pI, gR_pL, gR_pA, gR_pB, gR_pR, gR_pW]; simpa using a7⟩, b⟩
      · simp only [gI_pI, gI_pL, gI_pA, gI_pB, gI_pR, gI_pW, gL_pI, gL_pL, gL_pA, gL_pB, gL_pR, gL_pW, aI_pI, aI_pL, aI_pA, aI_pB, aI_pR, aI_pW, aL_pI, aL_pL, aL_pA, aL_pB, aL_pR, aL_pW, gR_pI, gR_pL, gR_pA, gR_pB, gR_pR, gR_pW]; simpa using h2
      · simp only [gI_pI, gI_pL, gI_pA, gI_pB, gI_pR, gI_pW, gL_pI, gL_pL, gL_pA, gL_pB, gL_pR, gL_pW, aI_pI, aI_pL, aI_pA, aI_pB, aI_pR, aI_pW, aL_pI, aL_pL, aL_pA, aL_pB, aL_pR, aL_pW, gR_pI, gR_pL, gR_pA, gR_pB, gR_pR, gR_pW]; simpa using h3
      · simp only [gI_pI, gI_pL, gI_pA, gI_pB, gI_pR, gI_pW, gL_pI, gL_pL, gL_pA, gL_pB, gL_pR, gL_pW, aI_pI, aI_pL, aI_pA, aI_pB, aI_pR, aI_pW, aL_pI, aL_pL, aL_pA, aL_pB, aL_pR, aL_pW, gR_pI, gR_pL, gR_pA, gR_pB, gR_pR, gR_pW]; simpa using h4
      · simp [gI_pI, gI_pL, gI_pA, gI_pB, gI_pR, gI_pW, gL_pI, gL_pL, gL_pA, gL_pB, gL_pR, gL_pW, aI_pI, aI_pL, aI_pA, aI_pB, aI_pR, aI_pW, aL_pI, aL_pL, aL_pA, aL_pB, aL_pR, aL_pW, gR_pI, gR_pL, gR_pA, gR_pB, gR_pR, gR_pW]
      · simp [gI_pI, gI_pL, gI_pA, gI_pB, gI_pR, gI_pW, gL_pI, gL_pL, gL_pA, gL_pB, gL_pR, gL_pW, aI_pI, aI_pL, aI_pA, aI_pB, aI_pR, aI_pW, aL_pI, aL_pL, aL_pA, aL_pB, aL_pR, aL_pW, gR_pI, gR_pL, gR_pA, gR_pB, gR_pR, gR_pW]
  · refine ⟨0, X1, pI_ M2 0 56 (gI_ M2 0 56 + 1), rfl, ?_, fx1.mono pRd_DX, ((fm1.trans fm2).mono pLx_DM).trans (Fr.pI rfl (Fr.refl _ _)), Or.inr ⟨rfl, f, pl, xf, by simp only [gI_pI, gI_pL, gI_pA, gI_pB, gI_pR, gI_pW, gL_pI, gL_pL, gL_pA, gL_pB, gL_pR, gL_pW, aI_pI, aI_pL, aI_pA, aI_pB, aI_pR, aI_pW, aL_pI, aL_pL, aL_pA, aL_pB, aL_pR, aL_pW, gR_pI, gR_pL, gR_pA, gR_pB, gR_pR, gR_pW]; simpa using mf.1, by simp only [gI_pI, gI_pL, gI_pA, gI_pB, gI_pR, gI_pW, gL_pI, gL_pL, gL_pA, gL_pB, gL_pR, gL_pW, aI_pI, aI_pL, aI_pA, aI_pB, aI_pR, aI_pW, aL_pI, aL_pL, aL_pA, aL_pB, aL_pR, aL_pW, gR_pI, gR_pL, gR_pA, gR_pB, gR_pR, gR_pW]; simpa using mf.2.1, mf.2.2⟩⟩
    unfold mTail
    rw [em1, b1_s, m1, b1_s, goes_f mf, b1_s, oI_e, b1_s]
end LAW
