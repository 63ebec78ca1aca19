/-! reading laws: second, both readers -/
section SECOND2
variable {y : Nat → Nat} {n c k1 many : Nat} {st : Nat → Option (Nat × Nat)} {ba : Nat → Nat} {le sc : Nat → Option Nat} {lim : Option Nat}
def mC3 (q21 w24 : Int32 × St) : Option St := (if gI_ w24.2 0 41 ≤ 0 then b1 (lp (fun w25 : Int32 => bX12_readSecond_63 q21 w24 w25) 5000 w24.1) fun u30 => b1 ((if u30 = (-4) then some 1 else some 0) : Option (Int32)) fun w31 => b1 (fX12_wants w24.2 w31 5) fun S32 => b1 (wI_ S32 38 8 q21.1 w24.1) fun S33 => some S33 else some w24.2)
theorem second_e (S : St) : fX12_readSecond S = b1 (fX12_letter S) fun q21 => b1 (mDup 38 q21) fun w22 => b1 (fX12_goesOn w22) fun S23 => b1 (mLet S23) fun w24 => mC3 q21 w24 := rfl
theorem MF.nle {S : St} {f pl : Nat} (h : MF S f pl) : ¬ gI_ S 0 41 ≤ 0 := by
  rw [h.1]
  have h1 := h.2.2.1
  have h2 := h.2.2.2
  exact nI_ge (show 0 < f by omega) (by omega)
theorem second_f {S M : St} {f pl : Nat} {v : Int32} (h : MF S f pl) : (b1 (mDup 38 (v, S)) fun w22 => b1 (fX12_goesOn w22) fun S23 => b1 (mLet S23) fun w24 => mC3 (v, M) w24) = some S := by
  rw [dup_f h, b1_s, goes_f h, b1_s, mLetF h, b1_s]
  exact if_neg h.nle
theorem Dft.second {SX SM : St} {a b : Nat} (h : Dft k1 SX SM st ba le sc lim many) : Dft k1 (pA_ SX (k1 + 5) a (nI b)) (pA_ SM 38 a (nI b)) st ba le (fun i => if i = a then some b else sc i) lim many := by
  obtain ⟨h1, h2, h3, h4, h5, h6⟩ := h
  refine ⟨fun i hi => ?_, h2, h3, h4, h5, h6⟩
  obtain ⟨⟨a1, a2, a3, a4, a5, a6, a7⟩, b1', b2, b3, b4, b5⟩ := h1 i hi
  refine ⟨⟨?_, ?_, ?_, ?_, ?_, a6, a7⟩, ?_, ?_, ?_, ?_, ?_⟩
  · simp [gI_pI, gI_pL, gI_pA, gI_pB, gI_pR, gI_pW, gL_pI, gL_pL, gL_pA, gL_pB, gL_pR, gL_pW, aI_pI, aI_pL, aI_pA, aI_pB, aI_pR, aI_pW, aL_pI, aL_pL, aL_pA, aL_pB, aL_pR, aL_pW, gR_pI, gR_pL, gR_pA, gR_pB, gR_pR, gR_pW, a1]
  · simp [gI_pI, gI_pL, gI_pA, gI_pB, gI_pR, gI_pW, gL_pI, gL_pL, gL_pA, gL_pB, gL_pR, gL_pW, aI_pI, aI_pL, aI_pA, aI_pB, aI_pR, aI_pW, aL_pI, aL_pL, aL_pA, aL_pB, aL_pR, aL_pW, gR_pI, gR_pL, gR_pA, gR_pB, gR_pR, gR_pW, a2]
  · simp [gI_pI, gI_pL, gI_pA, gI_pB, gI_pR, gI_pW, gL_pI, gL_pL, gL_pA, gL_pB, gL_pR, gL_pW, aI_pI, aI_pL, aI_pA, aI_pB, aI_pR, aI_pW, aL_pI, aL_pL, aL_pA, aL_pB, aL_pR, aL_pW, gR_pI, gR_pL, gR_pA, gR_pB, gR_pR, gR_pW, a3]
  · simp [gI_pI, gI_pL, gI_pA, gI_pB, gI_pR, gI_pW, gL_pI, gL_pL, gL_pA, gL_pB, gL_pR, gL_pW, aI_pI, aI_pL, aI_pA, aI_pB, aI_pR, aI_pW, aL_pI, aL_pL, aL_pA, aL_pB, aL_pR, aL_pW, gR_pI, gR_pL, gR_pA, gR_pB, gR_pR, gR_pW, a4]
  · by_cases z : i = a
    · simp [gI_pI, gI_pL, gI_pA, gI_pB, gI_pR, gI_pW, gL_pI, gL_pL, gL_pA, gL_pB, gL_pR, gL_pW, aI_pI, aI_pL, aI_pA, aI_pB, aI_pR, aI_pW, aL_pI, aL_pL, aL_pA, aL_pB, aL_pR, aL_pW, gR_pI, gR_pL, gR_pA, gR_pB, gR_pR, gR_pW, z, sv]
    · simp [gI_pI, gI_pL, gI_pA, gI_pB, gI_pR, gI_pW, gL_pI, gL_pL, gL_pA, gL_pB, gL_pR, gL_pW, aI_pI, aI_pL, aI_pA, aI_pB, aI_pR, aI_pW, aL_pI, aL_pL, aL_pA, aL_pB, aL_pR, aL_pW, gR_pI, gR_pL, gR_pA, gR_pB, gR_pR, gR_pW, z, a5]
  · simp [gI_pI, gI_pL, gI_pA, gI_pB, gI_pR, gI_pW, gL_pI, gL_pL, gL_pA, gL_pB, gL_pR, gL_pW, aI_pI, aI_pL, aI_pA, aI_pB, aI_pR, aI_pW, aL_pI, aL_pL, aL_pA, aL_pB, aL_pR, aL_pW, gR_pI, gR_pL, gR_pA, gR_pB, gR_pR, gR_pW, b1']
  · simp [gI_pI, gI_pL, gI_pA, gI_pB, gI_pR, gI_pW, gL_pI, gL_pL, gL_pA, gL_pB, gL_pR, gL_pW, aI_pI, aI_pL, aI_pA, aI_pB, aI_pR, aI_pW, aL_pI, aL_pL, aL_pA, aL_pB, aL_pR, aL_pW, gR_pI, gR_pL, gR_pA, gR_pB, gR_pR, gR_pW, b2]
  · simp [gI_pI, gI_pL, gI_pA, gI_pB, gI_pR, gI_pW, gL_pI, gL_pL, gL_pA, gL_pB, gL_pR, gL_pW, aI_pI, aI_pL, aI_pA, aI_pB, aI_pR, aI_pW, aL_pI, aL_pL, aL_pA, aL_pB, aL_pR, aL_pW, gR_pI, gR_pL, gR_pA, gR_pB, gR_pR, gR_pW, b3]
  · simp [gI_pI, gI_pL, gI_pA, gI_pB, gI_pR, gI_pW, gL_pI, gL_pL, gL_pA, gL_pB, gL_pR, gL_pW, aI_pI, aI_pL, aI_pA, aI_pB, aI_pR, aI_pW, aL_pI, aL_pL, aL_pA, aL_pB, aL_pR, aL_pW, gR_pI, gR_pL, gR_pA, gR_pB, gR_pR, gR_pW, b4]
  · by_cases z : i = a
    · simp [gI_pI, gI_pL, gI_pA, gI_pB, gI_pR, gI_pW, gL_pI, gL_pL, gL_pA, gL_pB, gL_pR, gL_pW, aI_pI, aI_pL, aI_pA, aI_pB, aI_pR, aI_pW, aL_pI, aL_pL, aL_pA, aL_pB, aL_pR, aL_pW, gR_pI, gR_pL, gR_pA, gR_pB, gR_pR, gR_pW, z, sv]
    · simp [gI_pI, gI_pL, gI_pA, gI_pB, gI_pR, gI_pW, gL_pI, gL_pL, gL_pA, gL_pB, gL_pR, gL_pW, aI_pI, aI_pL, aI_pA, aI_pB, aI_pR, aI_pW, aL_pI, aL_pL, aL_pA, aL_pB, aL_pR, aL_pW, gR_pI, gR_pL, gR_pA, gR_pB, gR_pR, gR_pW, z, b5]
theorem j_second {SX SM : St} {t : Nat} (hk : isPl k1) (hn : n ≤ 200) (hy : ∀ i, i < n → y i < 256) (hE : EvT y n c SX) (g : gI_ SX 61 1 = nI t) (ht : t ≤ c) (h5 : gI_ SX 61 5 = 0) (hM : HM y n t SM) (h0 : gI_ SM 0 41 = 0) (hT : Tap SM 0 36 28 n y) (hD : Dft k1 SX SM st ba le sc lim many) (hB : DfB st ba le sc lim) : ∃ r SX' SM', fX2_readSecond k1 SX = some (r, SX') ∧ fX12_readSecond SM = some SM' ∧ Fr (pDX k1) SX SX' ∧ Fr pDM SM SM' ∧ ((r = 1 ∧ Okk y n c k1 many t SX' SM') ∨ (r = 0 ∧ Bdd SX' SM')) := by
  have t10 : ¬ (1 : Int32) = 0 := by decide
  have t00 : (0 : Int32) = 0 := rfl
  obtain ⟨r1, X1, v1, M1, e1, m1, fx1, fm1, o1⟩ := jl hE g ht h5 hM
  rw [mLet0 h0] at m1
  rw [second_e, m1, b1_s]
  unfold fX2_readSecond
  rw [e1, b1_s]
  rcases o1 with ⟨rfl, tc, l2, rfl, rfl, hg, x3, x4, x1, x5⟩ | ⟨rfl, f, pl, xf, mf⟩
  · have D1 := hD.fr hk fx1 (Fr.refl pLx M1)
    obtain ⟨⟨a1, a2, a3, a4, a5, a6, a7⟩, b34, b35, b36, b37, b38⟩ := D1.1 (vl y n t) (by omega)
    have sc8 : ∀ x, sc (vl y n t) = some x → x < 8 := fun x e => by
      obtain ⟨rk, hr⟩ := hB.2.1
      exact (hr _ x l2 e).1
    have hS : fX3_hasSecond k1 X1 (nI (vl y n t)) = some (zb (sc (vl y n t)).isSome) := by
      unfold fX3_hasSecond
      rw [rI_n (by omega) (by omega), b1_s, a5]
      cases q : sc (vl y n t) with
      | none => rfl
      | some x =>
        have := sc8 x q
        have s4 : ¬ sv (some x) = -4 := fun z => (m4_ne (a := x) (by omega)).mp z
        rw [if_neg s4]; rfl
    show ∃ r SX' SM', (if (1 : Int32) = 0 then some (0, X1) else b1 (fX3_hasSecond k1 X1 (gI_ X1 61 3)) fun x22 => (if x22 = 0 then b1 (fX2_expect X1 2) fun q23 => (if q23.1 = 0 then some (0, q23.2) else b1 (fX3_leadsTo k1 q23.2 (gI_ q23.2 61 3) (gI_ X1 61 3)) fun x24 => (if x24 = 0 then b1 (wI_ q23.2 (k1 + 5) 8 (gI_ X1 61 3) (gI_ q23.2 61 3)) fun S25 => some (1, S25) else b1 (fX2_fail q23.2 5) fun q26 => b1 (bz_ q26.1) fun z27 => some (z27, q26.2))) else b1 (fX2_fail X1 4) fun q30 => b1 (bz_ q30.1) fun z31 => some (z31, q30.2))) = some (r, SX') ∧ _
    rw [if_neg t10, x3, hS, b1_s]
    cases q : sc (vl y n t) with
    | some x =>
      have n4 : ¬ aI_ M1 38 (vl y n t) = -4 := by
        rw [b38, q]
        have := sc8 x q
        exact fun z => (m4_ne (a := x) (by omega)).mp z
      obtain ⟨M2, em, fm, mf⟩ := dup_yes hg.1 hg.2.1 (by omega) n4
      have tl := second_f (v := nI (vl y n t)) (M := M1) mf
      rw [dup_f mf] at tl
      rw [em, if_neg (by simp [zb] : ¬ zb (some x).isSome = 0), fail_x, b1_s]
      exact ⟨0, _, M2, rfl, tl, (fx1.mono pRd_DX).trans ((Fr.pI (p := pRd) rfl (Fr.pI rfl (Fr.refl _ _))).mono pRd_DX), fm.mono pLx_DM, Or.inr ⟨rfl, 4, _, fail_XF (f := 4) x4, mf⟩⟩
    | none =>
      have y4 : aI_ M1 38 (vl y n t) = -4 := by rw [b38, q]; rfl
      obtain ⟨M2, em2, fm2, hM2⟩ := goes_m hT hn hy hg
      obtain ⟨r2, X2, v2, M3, e2, m2, fx2, fm3, o2⟩ := jl (hE.rd fx1) x1 (by omega) x5 hM2
      rw [dup_no hg.1 (by omega) y4, b1_s, em2, b1_s, m2, b1_s, if_pos (by rfl : zb (none : Option Nat).isSome = 0), e2, b1_s]
      rcases o2 with ⟨rfl, tc2, l4, rfl, rfl, hg2, z3, z4, z1, z5⟩ | ⟨rfl, f, pl, xf, mf⟩
      · have FX : Fr pRd SX X2 := fx1.trans fx2
        have D3 := hD.fr hk FX fm2
        have pk : ∀ j b, j ≤ 5 → pDX k1 (k1 + j) b = true := fun j b hj => by simp [pDX]; omega
        have k61 : k1 + 5 ≠ 61 := by rcases hk with rfl | rfl <;> omega
        obtain ⟨rx, ex, hx⟩ := leads_x (k1 := k1) (S := X2) (a := vl y n t) (b := vl y n (t + 1)) hB.2.1 (fun i hi => (D3.1 i hi).1.2.2.2.2.1) l4 l2
        obtain ⟨rm, er, hr⟩ := leads_m (q21 := (nI (vl y n t), M1)) (w24 := (nI (vl y n (t + 1)), M3)) (a := vl y n t) (b := vl y n (t + 1)) hB.2.1 (fun i hi => (D3.1 i hi).2.2.2.2.2) l4 l2 rfl
        have le0 : gI_ M3 0 41 ≤ 0 := by rw [hg2.1]; decide
        show ∃ r SX' SM', (if (1 : Int32) = 0 then some (0, X2) else b1 (fX3_leadsTo k1 X2 (gI_ X2 61 3) (nI (vl y n t))) fun x24 => (if x24 = 0 then b1 (wI_ X2 (k1 + 5) 8 (nI (vl y n t)) (gI_ X2 61 3)) fun S25 => some (1, S25) else b1 (fX2_fail X2 5) fun q26 => b1 (bz_ q26.1) fun z27 => some (z27, q26.2))) = some (r, SX') ∧ (if gI_ M3 0 41 ≤ 0 then b1 (lp (fun w25 : Int32 => bX12_readSecond_63 (nI (vl y n t), M1) (nI (vl y n (t + 1)), M3) w25) 5000 (nI (vl y n (t + 1)))) fun u30 => b1 ((if u30 = (-4) then some 1 else some 0) : Option (Int32)) fun w31 => b1 (fX12_wants M3 w31 5) fun S32 => b1 (wI_ S32 38 8 (nI (vl y n t)) (nI (vl y n (t + 1)))) fun S33 => some S33 else some M3) = some SM' ∧ _
        rw [if_neg t10, z3, ex, b1_s, if_pos le0, er, b1_s]
        rcases hx with ⟨rfl, hx⟩ | ⟨rfl, hx⟩
        · rcases hr with ⟨rfl, _⟩ | ⟨_, hr⟩
          · obtain ⟨M4, ew, fw, mw⟩ := want_f (f := 5) hg2.1 hg2.2.1 (by omega)
            have ew' : fX12_wants M3 0 5 = some M4 := ew
            have n4 : ¬ nI (vl y n t) = -4 := fun z => (m4_ne (a := vl y n t) (by omega)).mp z
            rw [if_neg t10, if_neg n4, b1_s, ew', b1_s, wI_n (by omega) (by omega), b1_s, fail_x, b1_s]
            refine ⟨0, _, _, rfl, rfl, (FX.mono pRd_DX).trans ((Fr.pI (p := pRd) rfl (Fr.pI rfl (Fr.refl _ _))).mono pRd_DX), ((fm2.trans fw).mono pLx_DM).trans (Fr.pA rfl (Fr.refl _ _)), Or.inr ⟨rfl, 5, _, fail_XF (f := 5) z4, mw⟩⟩
          · obtain ⟨k, hx⟩ := hx
            exact absurd hx (hr k)
        · rcases hr with ⟨_, k, hr⟩ | ⟨rfl, _⟩
          · exact absurd hr (hx k)
          · have y4' : (-4 : Int32) = -4 := rfl
            rw [if_pos t00, wI_n (by omega) (by omega), b1_s, if_pos y4', b1_s, wants1, b1_s, wI_n (by omega) (by omega), b1_s]
            exact ⟨1, _, _, rfl, rfl, (FX.mono pRd_DX).trans (Fr.pA (pk 5 _ (by omega)) (Fr.refl _ _)), (fm2.mono pLx_DM).trans (Fr.pA rfl (Fr.refl _ _)), Or.inl ⟨rfl, t + 1, st, ba, le, _, lim, by omega, tc2, hg2.fr (p := fun a _ => decide (34 ≤ a)) (Fr.pA rfl (Fr.refl _ _)) (fun b _ _ => rfl), z1, z5, D3.second, ⟨hB.1, hB.2.1.add l4 hx, hB.2.2⟩⟩⟩
      · exact ⟨0, X2, M3, rfl, if_neg mf.nle, (fx1.trans fx2).mono pRd_DX, (fm2.trans fm3).mono pLx_DM, Or.inr ⟨rfl, f, pl, xf, mf⟩⟩
  · exact ⟨0, X1, M1, rfl, second_f (v := v1) mf, fx1.mono pRd_DX, fm1.mono pLx_DM, Or.inr ⟨rfl, f, pl, xf, mf⟩⟩
end SECOND2
