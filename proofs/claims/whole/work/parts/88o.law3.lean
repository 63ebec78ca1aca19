/-! reading laws: one law, both readers -/
section LAW3
variable {y : Nat → Nat} {n c k1 many : Nat} {st : Nat → Option (Nat × Nat)} {ba : Nat → Nat} {le sc : Nat → Option Nat} {lim : Option Nat}
def xRd (k1 w : Nat) (S : St) : Option (Int32 × St) := if w = 2 then fX2_readLimit k1 S else if w = 0 then fX2_readStamp k1 S else if w = 1 then fX2_readBar k1 S else if w = 3 then fX2_readLeast k1 S else fX2_readSecond k1 S
theorem exp_bad {S : St} {t k : Nat} (hE : EvT y n c S) (g : gI_ S 61 1 = nI t) (ht : t ≤ c) (h5 : gI_ S 61 5 = 0) (hk : 2 ≤ k ∧ k ≤ 9) (hb : kd y n t = 1) : ∃ S', fX2_expect S (nI k) = some (0, S') ∧ Fr pRd S S' ∧ XF S' 1 (tst_ y n t) := by
  obtain ⟨r, S1, e, f, hc⟩ := exp_x (k := k) hE g ht h5 hk
  rcases hc with ⟨q, _⟩ | ⟨_, rfl, xf⟩ | ⟨q, _⟩
  · omega
  · exact ⟨S1, e, f, xf⟩
  · exact absurd hb q
theorem expn_bad {S : St} {t : Nat} {lo hi : Int32} (hE : EvT y n c S) (g : gI_ S 61 1 = nI t) (ht : t ≤ c) (h5 : gI_ S 61 5 = 0) (hb : kd y n t = 1) : ∃ S', fX2_expectNumber S lo hi = some (0, S') ∧ Fr pRd S S' ∧ XF S' 1 (tst_ y n t) := by
  obtain ⟨S1, e, f, xf⟩ := exp_bad (k := 3) hE g ht h5 (by omega) hb
  have e' : fX2_expect S 3 = some (0, S1) := e
  refine ⟨S1, ?_, f, xf⟩
  unfold fX2_expectNumber
  rw [e', b1_s]
  rfl
theorem rd_bad {S : St} {t w : Nat} (hE : EvT y n c S) (g : gI_ S 61 1 = nI t) (ht : t ≤ c) (h5 : gI_ S 61 5 = 0) (hb : kd y n t = 1) (h9 : w = 2 → gI_ S k1 9 = 0) : ∃ S', xRd k1 w S = some (0, S') ∧ Fr pRd S S' ∧ XF S' 1 (tst_ y n t) := by
  obtain ⟨S1, e1, f1, x1⟩ := exp_bad (k := 2) hE g ht h5 (by omega) hb
  have e1' : fX2_expect S 2 = some (0, S1) := e1
  unfold xRd
  by_cases q2 : w = 2
  · obtain ⟨S2, e2, f2, x2⟩ := expn_bad (lo := 0) (hi := 50) hE g ht h5 hb
    rw [if_pos q2]
    refine ⟨S2, ?_, f2, x2⟩
    unfold fX2_readLimit
    rw [if_pos (h9 q2), e2, b1_s]; rfl
  rw [if_neg q2]
  obtain ⟨S2, e2, f2, x2⟩ := expn_bad (lo := 0) (hi := 7) hE g ht h5 hb
  by_cases q0 : w = 0
  · rw [if_pos q0]
    refine ⟨S2, ?_, f2, x2⟩
    unfold fX2_readStamp
    rw [e2, b1_s]; rfl
  rw [if_neg q0]
  by_cases q1 : w = 1
  · rw [if_pos q1]
    refine ⟨S2, ?_, f2, x2⟩
    unfold fX2_readBar
    rw [e2, b1_s]; rfl
  rw [if_neg q1]
  by_cases q3 : w = 3
  · rw [if_pos q3]
    refine ⟨S1, ?_, f1, x1⟩
    unfold fX2_readLeast
    rw [e1', b1_s]; rfl
  rw [if_neg q3]
  refine ⟨S1, ?_, f1, x1⟩
  unfold fX2_readSecond
  rw [e1', b1_s]; rfl
theorem j_read {SX SM S22 : St} {t w : Nat} (hk : isPl k1) (hn : n ≤ 200) (hy : ∀ i, i < n → y i < 256) (hE : EvT y n c SX) (g : gI_ SX 61 1 = nI t) (ht : t ≤ c) (h5 : gI_ SX 61 5 = 0) (hM : HM y n t SM) (hT : Tap SM 0 36 28 n y) (hD : Dft k1 SX SM st ba le sc lim many) (hB : DfB st ba le sc lim) (hw : w < 5) (h40 : gI_ S22 0 40 = nI w) (hl : w = 2 → lim = none) : ∃ r SX' SM', xRd k1 w SX = some (r, SX') ∧ mBig S22 SM = some SM' ∧ Fr (pDX k1) SX SX' ∧ Fr pDM SM SM' ∧ ((r = 1 ∧ Okk y n c k1 many t SX' SM') ∨ (r = 0 ∧ Bdd SX' SM')) := by
  rcases hand hM with ⟨hb, mf⟩ | ⟨_, hg⟩
  · obtain ⟨S1, e1, f1, x1⟩ := rd_bad (k1 := k1) (w := w) hE g ht h5 hb (fun q => by rw [hD.2.2.1, hl q]; rfl)
    exact ⟨0, S1, SM, e1, big_f mf.ne, f1.mono pRd_DX, Fr.refl _ _, Or.inr ⟨rfl, 1, _, x1, mf⟩⟩
  rw [big_w hg.1 h40 hw]
  unfold xRd
  by_cases q2 : w = 2
  · have := hl q2
    subst this
    rw [if_pos q2, if_pos q2]
    exact j_limit hk hy hE g ht h5 hM hg.1 hD hB
  rw [if_neg q2, if_neg q2]
  by_cases q0 : w = 0
  · rw [if_pos q0, if_pos q0]
    exact j_stamp hk hn hy hE g ht h5 hM hg.1 hT hD hB
  rw [if_neg q0, if_neg q0]
  by_cases q1 : w = 1
  · rw [if_pos q1, if_pos q1]
    exact j_bar hk hn hy hE g ht h5 hM hg.1 hT hD hB
  rw [if_neg q1, if_neg q1]
  by_cases q3 : w = 3
  · rw [if_pos q3, if_pos q3]
    exact j_least hk hn hy hE g ht h5 hM hg.1 hT hD hB
  rw [if_neg q3, if_neg q3]
  exact j_second hk hn hy hE g ht h5 hM hg.1 hT hD hB
def xAf (k1 : Nat) (q : Int32 × St) : Option (Int32 × St) := if q.1 = 0 then some (0, q.2) else xTail k1 q.2
theorem law_x {S S1 : St} {k : Nat} (e : fX2_advance S = some S1) (h2 : gI_ S1 61 2 = nI k) (hk : k ≤ 9) : fX2_readLaw k1 S = if k = 0 then some (0, S1) else if k = 1 then b1 (fX2_fail S1 1) (xAf k1) else if k < 5 then b1 (fX2_fail S1 2) (xAf k1) else b1 (xRd k1 (k - 5) S1) (xAf k1) := by
  unfold fX2_readLaw
  rw [e, b1_s, h2]
  have e0 : (nI k = 0) ↔ k = 0 := nI_eq (b := 0) (by omega) (by omega)
  have e1 : (nI k = 1) ↔ k = 1 := nI_eq (b := 1) (by omega) (by omega)
  have e2 : (nI k = 2) ↔ k = 2 := nI_eq (b := 2) (by omega) (by omega)
  have e3 : (nI k = 3) ↔ k = 3 := nI_eq (b := 3) (by omega) (by omega)
  have e4 : (nI k = 4) ↔ k = 4 := nI_eq (b := 4) (by omega) (by omega)
  have e5 : (nI k = 5) ↔ k = 5 := nI_eq (b := 5) (by omega) (by omega)
  have e6 : (nI k = 6) ↔ k = 6 := nI_eq (b := 6) (by omega) (by omega)
  have e7 : (nI k = 7) ↔ k = 7 := nI_eq (b := 7) (by omega) (by omega)
  have e8 : (nI k = 8) ↔ k = 8 := nI_eq (b := 8) (by omega) (by omega)
  have e9 : (nI k = 9) ↔ k = 9 := nI_eq (b := 9) (by omega) (by omega)
  simp only [e0, e1, e2, e3, e4, e5, e6, e7, e8, e9]
  have cs : k = 0 ∨ k = 1 ∨ k = 2 ∨ k = 3 ∨ k = 4 ∨ k = 5 ∨ k = 6 ∨ k = 7 ∨ k = 8 ∨ k = 9 := by omega
  clear e0 e1 e2 e3 e4 e5 e6 e7 e8 e9 h2
  rcases cs with rfl | rfl | rfl | rfl | rfl | rfl | rfl | rfl | rfl | rfl <;> rfl
theorem j_law {SX SM : St} {t : Nat} (hk : isPl k1) (hn : n ≤ 200) (hy : ∀ i, i < n → y i < 256) (hE : EvT y n c SX) (g : gI_ SX 61 1 = nI t) (ht : t ≤ c) (h5 : gI_ SX 61 5 = 0) (hG : HG y n t SM) (k0 : kd y n t ≠ 0) (hT : Tap SM 0 36 28 n y) (hD : Dft k1 SX SM st ba le sc lim many) (hB : DfB st ba le sc lim) : ∃ r SX' SM', fX2_readLaw k1 SX = some (r, SX') ∧ fX12_readLaw SM = some SM' ∧ Fr (pDX k1) SX SX' ∧ Fr pDM SM SM' ∧ ((r = 1 ∧ Lok y n c k1 (many + 1) t SX' SM') ∨ (r = 0 ∧ Bdd SX' SM')) := by
  obtain ⟨X1, e, f, a2, a3, a4, a1, a5⟩ := adv_x hE g ht
  have tc := hE.kd0 ht k0
  rw [if_pos tc] at a1
  have kl := kd_le y n t
  have t00 : (0 : Int32) = 0 := rfl
  have t10 : ¬ (1 : Int32) = 0 := by decide
  rw [law_x e a2 kl, law_e, if_neg k0]
  have three : ∀ k, 2 ≤ k → k ≤ 4 → kd y n t = k → gI_ SM 0 39 = nI k → ∃ r SX' SM', (if kd y n t = 1 then b1 (fX2_fail X1 1) (xAf k1) else if kd y n t < 5 then b1 (fX2_fail X1 2) (xAf k1) else b1 (xRd k1 (kd y n t - 5) X1) (xAf k1)) = some (r, SX') ∧ (b1 ((if gI_ SM 0 39 = 1 then some 1 else some 0) : Option (Int32)) fun w21 => b1 (fX12_wants SM w21 2) fun S22 => (if gI_ S22 0 41 ≤ 0 then b1 (mLim S22) fun w23 => b1 (fX12_goesOn w23) fun S24 => b1 (mBig S22 S24) fun w25 => mTail w25 else some S22)) = some SM' ∧ Fr (pDX k1) SX SX' ∧ Fr pDM SM SM' ∧ ((r = 1 ∧ Lok y n c k1 (many + 1) t SX' SM') ∨ (r = 0 ∧ Bdd SX' SM')) := fun k k2 k4 ek m39 => by
    have n1 : ¬ gI_ SM 0 39 = 1 := by
      rw [m39]
      exact fun q => by
        have := (nI_eq (a := k) (b := 1) (by omega) (by omega)).mp q
        omega
    obtain ⟨M1, ew, fw, mw⟩ := want_f (f := 2) hG.1 hG.2.1 (by omega)
    have ew' : fX12_wants SM 0 2 = some M1 := ew
    rw [if_neg (by omega : ¬ kd y n t = 1), if_pos (by omega : kd y n t < 5), fail_x, b1_s, if_neg n1, b1_s, ew', b1_s, if_neg mw.nle]
    exact ⟨0, _, M1, rfl, rfl, (Fr.pI rfl (Fr.pI rfl f)).mono pRd_DX, fw.mono pLx_DM, Or.inr ⟨rfl, 2, _, fail_XF (f := 2) a4, mw⟩⟩
  rcases hG.2.2.2 with ⟨a, _⟩ | ⟨a, b, _⟩ | ⟨a, b, _⟩ | ⟨a, b⟩ | ⟨w, hw, a, b, d⟩
  · exact absurd a k0
  · exact three 2 (by omega) (by omega) a b
  · exact three 3 (by omega) (by omega) a b
  · exact three 4 (by omega) (by omega) a b
  clear three
  have le0 : gI_ SM 0 41 ≤ 0 := by rw [hG.1]; decide
  have ew : kd y n t - 5 = w := by omega
  rw [if_neg (by omega : ¬ kd y n t = 1), if_neg (by omega : ¬ kd y n t < 5), ew, if_pos b, b1_s, wants1, b1_s, if_pos le0]
  have hE1 := hE.rd f
  have D1 := hD.fr hk f (Fr.refl pLx SM)
  have x5 : gI_ X1 61 5 = 0 := a5.trans h5
  by_cases dup : w = 2 ∧ lim.isSome = true
  · obtain ⟨q2, hs⟩ := dup
    obtain ⟨v, rfl⟩ := Option.isSome_iff_exists.mp hs
    have v50 := hB.2.2 v rfl
    have m40 : gI_ SM 0 40 = 2 := by rw [d, q2]; rfl
    have m53 : ¬ gI_ SM 0 53 = -4 := by
      rw [hD.2.2.2.1]
      exact fun z => (m4_ne (a := v) (by omega)).mp z
    obtain ⟨M1, ew, fw, mw⟩ := want_f (f := 4) hG.1 hG.2.1 (by omega)
    have ew' : fX12_wants SM 0 4 = some M1 := ew
    have el : mLim SM = some M1 := by
      unfold mLim
      rw [if_pos m40, if_neg m53, b1_s, ew', b1_s]
    obtain ⟨M2, et, ft, mt⟩ := tail_f mw
    have x9 : ¬ gI_ X1 k1 9 = 0 := by rw [D1.2.2.1]; exact t10
    have er : xRd k1 w X1 = some (0, pI_ (pI_ X1 61 5 4) 61 6 (gI_ X1 61 4)) := by
      unfold xRd
      rw [if_pos q2]
      unfold fX2_readLimit
      rw [if_neg x9, fail_x, b1_s]
      rfl
    rw [er, b1_s, el, b1_s, goes_f mw, b1_s, big_f mw.ne, b1_s, et]
    exact ⟨0, _, M2, rfl, rfl, (Fr.pI rfl (Fr.pI rfl f)).mono pRd_DX, (fw.mono pLx_DM).trans ft, Or.inr ⟨rfl, 4, _, fail_XF (f := 4) a4, mt⟩⟩
  · have hl : w = 2 → lim = none := fun q => by
      cases lim with
      | none => rfl
      | some v => exact absurd ⟨q, rfl⟩ dup
    have el : mLim SM = some SM := by
      unfold mLim
      by_cases q2 : w = 2
      · have m40 : gI_ SM 0 40 = 2 := by rw [d, q2]; rfl
        have m53 : gI_ SM 0 53 = -4 := by rw [hD.2.2.2.1, hl q2]; rfl
        rw [if_pos m40, if_pos m53, b1_s, wants1, b1_s]
      · have m40 : ¬ gI_ SM 0 40 = 2 := by
          rw [d]
          exact fun z => q2 ((nI_eq (b := 2) (by omega) (by omega)).mp z)
        rw [if_neg m40]
    obtain ⟨M1, em, fm, hM1⟩ := goes_m hT hn hy hG
    have hT1 : Tap M1 0 36 28 n y := hT.fr fm rfl (fun j => rfl)
    have D2 := hD.fr hk f fm
    obtain ⟨r1, X2, M2, er, eb, fx2, fm2, oo⟩ := j_read hk hn hy hE1 a1 (by omega) x5 hM1 hT1 D2 hB hw d hl
    rw [el, b1_s, em, b1_s, er, b1_s, eb, b1_s]
    have FX : Fr (pDX k1) SX X2 := (f.mono pRd_DX).trans fx2
    have FM : Fr pDM SM M2 := (fm.mono pLx_DM).trans fm2
    rcases oo with ⟨rfl, hO⟩ | ⟨rfl, ff, pl, xf, mf⟩
    · have hE2 : EvT y n c X2 := hE1.fr fx2 (by rcases hk with rfl | rfl <;> rfl) (fun k j z1 z2 => by rcases hk with rfl | rfl <;> (simp [pDX, pRd]; omega))
      have hT2 : Tap M2 0 36 28 n y := hT1.fr fm2 rfl (fun j => rfl)
      obtain ⟨r, X3, M3, e3, m3, fx3, fm3, o3⟩ := j_tail hk hn hy hE2 hT2 hO
      refine ⟨r, X3, M3, ?_, m3, FX.trans fx3, FM.trans fm3, ?_⟩
      · show (if (1 : Int32) = 0 then some (0, X2) else xTail k1 X2) = _
        rw [if_neg t10, e3]
      · rcases o3 with ⟨rfl, t', s1, s2, s3, s4, s5, l1, l2⟩ | ⟨rfl, q⟩
        · exact Or.inl ⟨rfl, t', s1, s2, s3, s4, s5, by omega, l2⟩
        · exact Or.inr ⟨rfl, q⟩
    · obtain ⟨M3, et, ft, mt⟩ := tail_f mf
      exact ⟨0, X2, M3, rfl, et, FX, FM.trans ft, Or.inr ⟨rfl, ff, pl, xf, mt⟩⟩
end LAW3
