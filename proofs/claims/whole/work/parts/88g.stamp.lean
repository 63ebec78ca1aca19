/-! reading laws: stamp and bar -/
section STAMP
variable {y : Nat → Nat} {n c k1 many : Nat} {st : Nat → Option (Nat × Nat)} {ba : Nat → Nat} {le sc : Nat → Option Nat} {lim : Option Nat}
def Okk (y : Nat → Nat) (n c k1 many t : Nat) (SX SM : St) : Prop := ∃ t' st ba le sc lim, t ≤ t' ∧ t' < c ∧ HG y n t' SM ∧ gI_ SX 61 1 = nI (t' + 1) ∧ gI_ SX 61 5 = 0 ∧ Dft k1 SX SM st ba le sc lim many ∧ DfB st ba le sc lim
def Bdd (SX SM : St) : Prop := ∃ f pl, XF SX f pl ∧ MF SM f pl
theorem HG.fr {p : Nat → Nat → Bool} {t : Nat} {S S' : St} (h : HG y n t S) (hf : Fr p S S') (hp : ∀ b, 37 ≤ b → b ≤ 41 → p 0 b = false) : HG y n t S' := by
  obtain ⟨a, b, d, e⟩ := h
  refine ⟨by rw [hf.gI (hp 41 (by omega) (by omega))]; exact a, by rw [hf.gI (hp 38 (by omega) (by omega))]; exact b, by rw [hf.gI (hp 37 (by omega) (by omega))]; exact d, ?_⟩
  rw [hf.gI (hp 39 (by omega) (by omega)), hf.gI (hp 40 (by omega) (by omega))]; exact e
theorem mNumF {S : St} {f pl : Nat} (h : MF S f pl) (lo hi : Int32) : mNum S lo hi = some (0, S) := if_neg h.ne
theorem mLetF {S : St} {f pl : Nat} (h : MF S f pl) : mLet S = some (0, S) := if_neg h.ne
def mS3 (a b : Int32) (w26 : Int32 × St) : Option St := (if gI_ w26.2 0 41 = 0 then b1 (wI_ w26.2 34 8 a b) fun S27 => b1 (wI_ S27 35 8 a w26.1) fun S28 => some S28 else some w26.2)
def mDup (k : Nat) (q21 : Int32 × St) : Option St := ((if gI_ q21.2 0 41 = 0 then b1 (rI_ q21.2 k 8 q21.1) fun x34 => b1 ((if x34 = (-4) then some 1 else some 0) : Option (Int32)) fun w35 => b1 (fX12_wants q21.2 w35 4) fun S36 => some S36 else some q21.2) : Option (St))
theorem stamp_e (S : St) : fX12_readStamp S = b1 (fX12_number S 0 7) fun q21 => b1 (mDup 34 q21) fun w22 => b1 (fX12_goesOn w22) fun S23 => b1 (mNum S23 1800 2000) fun w24 => b1 (fX12_goesOn w24.2) fun S25 => b1 (mNum S25 w24.1 2000) fun w26 => mS3 q21.1 w24.1 w26 := rfl
theorem dup_f {S : St} {f pl k : Nat} {v : Int32} (h : MF S f pl) : mDup k (v, S) = some S := if_neg h.ne
theorem dup_no {S : St} {k v : Nat} (h : gI_ S 0 41 = 0) (hv : v < 8) (h4 : aI_ S k v = -4) : mDup k (nI v, S) = some S := by
  show (if gI_ S 0 41 = 0 then b1 (rI_ S k 8 (nI v)) fun x34 => b1 ((if x34 = (-4) then some 1 else some 0) : Option (Int32)) fun w35 => b1 (fX12_wants S w35 4) fun S36 => some S36 else some S) = _
  rw [if_pos h, rI_n hv (by omega), b1_s, if_pos h4, b1_s, wants1, b1_s]
theorem dup_yes {S : St} {k v s : Nat} (h : gI_ S 0 41 = 0) (h38 : gI_ S 0 38 = nI s) (hv : v < 8) (h4 : ¬ aI_ S k v = -4) : ∃ S', mDup k (nI v, S) = some S' ∧ Fr pLx S S' ∧ MF S' 4 s := by
  obtain ⟨S', ew, fw, mw⟩ := want_f (f := 4) h h38 (by omega)
  have ew' : fX12_wants S 0 4 = some S' := ew
  refine ⟨S', ?_, fw, mw⟩
  show (if gI_ S 0 41 = 0 then b1 (rI_ S k 8 (nI v)) fun x34 => b1 ((if x34 = (-4) then some 1 else some 0) : Option (Int32)) fun w35 => b1 (fX12_wants S w35 4) fun S36 => some S36 else some S) = _
  rw [if_pos h, rI_n hv (by omega), b1_s, if_neg h4, b1_s, ew', b1_s]
theorem stamp_f {S : St} {f pl : Nat} {v : Int32} (h : MF S f pl) : (b1 (mDup 34 (v, S)) fun w22 => b1 (fX12_goesOn w22) fun S23 => b1 (mNum S23 1800 2000) fun w24 => b1 (fX12_goesOn w24.2) fun S25 => b1 (mNum S25 w24.1 2000) fun w26 => mS3 v w24.1 w26) = some S := by
  rw [dup_f h, b1_s, goes_f h, b1_s, mNumF h, b1_s]
  show (b1 (fX12_goesOn S) fun S25 => b1 (mNum S25 0 2000) fun w26 => mS3 v 0 w26) = _
  rw [goes_f h, b1_s, mNumF h, b1_s]
  exact if_neg h.ne
theorem pRd_DX {k1 : Nat} : ∀ a b, pDX k1 a b = false → pRd a b = false := fun a b q => by unfold pDX at q; rw [Bool.or_eq_false_iff] at q; exact q.1
theorem pLx_DM : ∀ a b, pDM a b = false → pLx a b = false := fun a b q => by unfold pDM at q; rw [Bool.or_eq_false_iff, Bool.or_eq_false_iff] at q; exact q.1.1
theorem EvT.rd {S S' : St} (h : EvT y n c S) (hf : Fr pRd S S') : EvT y n c S' := h.fr hf rfl (fun k j a b => by simp [pRd]; omega)
theorem sv4 (o : Option Nat) (h : ∀ v, o = some v → v < 100000) : (sv o = -4) ↔ o = none := by
  cases o with
  | none => simp [sv]
  | some v =>
    have := h v rfl
    simp only [sv, reduceCtorEq, iff_false]
    exact fun q => (m4_ne (a := v) (by omega)).mp q
theorem Dft.stamp {SX SM : St} {v a b : Nat} (hk : isPl k1) (h : Dft k1 SX SM st ba le sc lim many) (hv : v < 8) : Dft k1 (pI_ (pA_ (pA_ SX (k1 + 1) v (nI a)) (k1 + 2) v (nI b)) k1 7 (gI_ SX k1 7 ||| ((1 : Int32) <<< (nI v &&& 31)))) (pA_ (pA_ SM 34 v (nI a)) 35 v (nI b)) (fun i => if i = v then some (a, b) else st i) ba le sc lim many := by
  obtain ⟨h1, h2, h3, h4, h5, h6⟩ := h
  refine ⟨fun i hi => ?_, ?_, ?_, ?_, ?_, ?_⟩
  · obtain ⟨⟨a1, a2, a3, a4, a5, a6, a7⟩, b1', b2, b3, b4, b5⟩ := h1 i hi
    refine ⟨⟨?_, ?_, ?_, ?_, ?_, ?_, ?_⟩, ?_, ?_, ?_, ?_, ?_⟩
    · by_cases z : i = v <;> simp [gI_pI, gI_pL, gI_pA, gI_pB, gI_pR, gI_pW, gL_pI, gL_pL, gL_pA, gL_pB, gL_pR, gL_pW, aI_pI, aI_pL, aI_pA, aI_pB, aI_pR, aI_pW, aL_pI, aL_pL, aL_pA, aL_pB, aL_pR, aL_pW, gR_pI, gR_pL, gR_pA, gR_pB, gR_pR, gR_pW, z, a1]
    · by_cases z : i = v <;> simp [gI_pI, gI_pL, gI_pA, gI_pB, gI_pR, gI_pW, gL_pI, gL_pL, gL_pA, gL_pB, gL_pR, gL_pW, aI_pI, aI_pL, aI_pA, aI_pB, aI_pR, aI_pW, aL_pI, aL_pL, aL_pA, aL_pB, aL_pR, aL_pW, gR_pI, gR_pL, gR_pA, gR_pB, gR_pR, gR_pW, z, a2]
    · simp [gI_pI, gI_pL, gI_pA, gI_pB, gI_pR, gI_pW, gL_pI, gL_pL, gL_pA, gL_pB, gL_pR, gL_pW, aI_pI, aI_pL, aI_pA, aI_pB, aI_pR, aI_pW, aL_pI, aL_pL, aL_pA, aL_pB, aL_pR, aL_pW, gR_pI, gR_pL, gR_pA, gR_pB, gR_pR, gR_pW, a3]
    · simp [gI_pI, gI_pL, gI_pA, gI_pB, gI_pR, gI_pW, gL_pI, gL_pL, gL_pA, gL_pB, gL_pR, gL_pW, aI_pI, aI_pL, aI_pA, aI_pB, aI_pR, aI_pW, aL_pI, aL_pL, aL_pA, aL_pB, aL_pR, aL_pW, gR_pI, gR_pL, gR_pA, gR_pB, gR_pR, gR_pW, a4]
    · simp [gI_pI, gI_pL, gI_pA, gI_pB, gI_pR, gI_pW, gL_pI, gL_pL, gL_pA, gL_pB, gL_pR, gL_pW, aI_pI, aI_pL, aI_pA, aI_pB, aI_pR, aI_pW, aL_pI, aL_pL, aL_pA, aL_pB, aL_pR, aL_pW, gR_pI, gR_pL, gR_pA, gR_pB, gR_pR, gR_pW, a5]
    · simp only [gI_pI, gI_pL, gI_pA, gI_pB, gI_pR, gI_pW, gL_pI, gL_pL, gL_pA, gL_pB, gL_pR, gL_pW, aI_pI, aI_pL, aI_pA, aI_pB, aI_pR, aI_pW, aL_pI, aL_pL, aL_pA, aL_pB, aL_pR, aL_pW, gR_pI, gR_pL, gR_pA, gR_pB, gR_pR, gR_pW, and_self, if_true]
      rw [b_or, a6, one_shl v (by omega) (by omega)]
      by_cases z : i = v <;> simp [z]
    · simp [gI_pI, gI_pL, gI_pA, gI_pB, gI_pR, gI_pW, gL_pI, gL_pL, gL_pA, gL_pB, gL_pR, gL_pW, aI_pI, aI_pL, aI_pA, aI_pB, aI_pR, aI_pW, aL_pI, aL_pL, aL_pA, aL_pB, aL_pR, aL_pW, gR_pI, gR_pL, gR_pA, gR_pB, gR_pR, gR_pW, a7]
    · by_cases z : i = v
      · simp [gI_pI, gI_pL, gI_pA, gI_pB, gI_pR, gI_pW, gL_pI, gL_pL, gL_pA, gL_pB, gL_pR, gL_pW, aI_pI, aI_pL, aI_pA, aI_pB, aI_pR, aI_pW, aL_pI, aL_pL, aL_pA, aL_pB, aL_pR, aL_pW, gR_pI, gR_pL, gR_pA, gR_pB, gR_pR, gR_pW, z, sv]
      · simp [gI_pI, gI_pL, gI_pA, gI_pB, gI_pR, gI_pW, gL_pI, gL_pL, gL_pA, gL_pB, gL_pR, gL_pW, aI_pI, aI_pL, aI_pA, aI_pB, aI_pR, aI_pW, aL_pI, aL_pL, aL_pA, aL_pB, aL_pR, aL_pW, gR_pI, gR_pL, gR_pA, gR_pB, gR_pR, gR_pW, z, b1']
    · by_cases z : i = v
      · simp [gI_pI, gI_pL, gI_pA, gI_pB, gI_pR, gI_pW, gL_pI, gL_pL, gL_pA, gL_pB, gL_pR, gL_pW, aI_pI, aI_pL, aI_pA, aI_pB, aI_pR, aI_pW, aL_pI, aL_pL, aL_pA, aL_pB, aL_pR, aL_pW, gR_pI, gR_pL, gR_pA, gR_pB, gR_pR, gR_pW, z, sv]
      · simp [gI_pI, gI_pL, gI_pA, gI_pB, gI_pR, gI_pW, gL_pI, gL_pL, gL_pA, gL_pB, gL_pR, gL_pW, aI_pI, aI_pL, aI_pA, aI_pB, aI_pR, aI_pW, aL_pI, aL_pL, aL_pA, aL_pB, aL_pR, aL_pW, gR_pI, gR_pL, gR_pA, gR_pB, gR_pR, gR_pW, z, b2]
    · simp [gI_pI, gI_pL, gI_pA, gI_pB, gI_pR, gI_pW, gL_pI, gL_pL, gL_pA, gL_pB, gL_pR, gL_pW, aI_pI, aI_pL, aI_pA, aI_pB, aI_pR, aI_pW, aL_pI, aL_pL, aL_pA, aL_pB, aL_pR, aL_pW, gR_pI, gR_pL, gR_pA, gR_pB, gR_pR, gR_pW, b3]
    · simp [gI_pI, gI_pL, gI_pA, gI_pB, gI_pR, gI_pW, gL_pI, gL_pL, gL_pA, gL_pB, gL_pR, gL_pW, aI_pI, aI_pL, aI_pA, aI_pB, aI_pR, aI_pW, aL_pI, aL_pL, aL_pA, aL_pB, aL_pR, aL_pW, gR_pI, gR_pL, gR_pA, gR_pB, gR_pR, gR_pW, b4]
    · simp [gI_pI, gI_pL, gI_pA, gI_pB, gI_pR, gI_pW, gL_pI, gL_pL, gL_pA, gL_pB, gL_pR, gL_pW, aI_pI, aI_pL, aI_pA, aI_pB, aI_pR, aI_pW, aL_pI, aL_pL, aL_pA, aL_pB, aL_pR, aL_pW, gR_pI, gR_pL, gR_pA, gR_pB, gR_pR, gR_pW, b5]
  · simp [gI_pI, gI_pL, gI_pA, gI_pB, gI_pR, gI_pW, gL_pI, gL_pL, gL_pA, gL_pB, gL_pR, gL_pW, aI_pI, aI_pL, aI_pA, aI_pB, aI_pR, aI_pW, aL_pI, aL_pL, aL_pA, aL_pB, aL_pR, aL_pW, gR_pI, gR_pL, gR_pA, gR_pB, gR_pR, gR_pW, h2]
  · simp [gI_pI, gI_pL, gI_pA, gI_pB, gI_pR, gI_pW, gL_pI, gL_pL, gL_pA, gL_pB, gL_pR, gL_pW, aI_pI, aI_pL, aI_pA, aI_pB, aI_pR, aI_pW, aL_pI, aL_pL, aL_pA, aL_pB, aL_pR, aL_pW, gR_pI, gR_pL, gR_pA, gR_pB, gR_pR, gR_pW, h3]
  · simp [gI_pI, gI_pL, gI_pA, gI_pB, gI_pR, gI_pW, gL_pI, gL_pL, gL_pA, gL_pB, gL_pR, gL_pW, aI_pI, aI_pL, aI_pA, aI_pB, aI_pR, aI_pW, aL_pI, aL_pL, aL_pA, aL_pB, aL_pR, aL_pW, gR_pI, gR_pL, gR_pA, gR_pB, gR_pR, gR_pW, h4]
  · simp [gI_pI, gI_pL, gI_pA, gI_pB, gI_pR, gI_pW, gL_pI, gL_pL, gL_pA, gL_pB, gL_pR, gL_pW, aI_pI, aI_pL, aI_pA, aI_pB, aI_pR, aI_pW, aL_pI, aL_pL, aL_pA, aL_pB, aL_pR, aL_pW, gR_pI, gR_pL, gR_pA, gR_pB, gR_pR, gR_pW, h5]
  · simp [gI_pI, gI_pL, gI_pA, gI_pB, gI_pR, gI_pW, gL_pI, gL_pL, gL_pA, gL_pB, gL_pR, gL_pW, aI_pI, aI_pL, aI_pA, aI_pB, aI_pR, aI_pW, aL_pI, aL_pL, aL_pA, aL_pB, aL_pR, aL_pW, gR_pI, gR_pL, gR_pA, gR_pB, gR_pR, gR_pW, h6]
theorem DfB.stamp {v a b : Nat} (h : DfB st ba le sc lim) (h1 : 1800 ≤ a) (h2 : a ≤ b) (h3 : b ≤ 2000) : DfB (fun i => if i = v then some (a, b) else st i) ba le sc lim :=
  ⟨fun i hi => ⟨fun x z e => by
    by_cases q : i = v
    · simp [q] at e
      omega
    · simp [q] at e
      exact (h.1 i hi).1 x z e, (h.1 i hi).2⟩, h.2⟩
theorem j_stamp {SX SM : St} {t : Nat} (hk : isPl k1) (hn : n ≤ 200) (hy : ∀ i, i < n → y i < 256) (hE : EvT y n c SX) (g : gI_ SX 61 1 = nI t) (ht : t ≤ c) (h5 : gI_ SX 61 5 = 0) (hM : HM y n t SM) (h0 : gI_ SM 0 41 = 0) (hT : Tap SM 0 36 28 n y) (hD : Dft k1 SX SM st ba le sc lim many) (hB : DfB st ba le sc lim) : ∃ r SX' SM', fX2_readStamp k1 SX = some (r, SX') ∧ fX12_readStamp SM = some SM' ∧ Fr (pDX k1) SX SX' ∧ Fr pDM SM SM' ∧ ((r = 1 ∧ Okk y n c k1 many t SX' SM') ∨ (r = 0 ∧ Bdd SX' SM')) := by
  have t10 : ¬ (1 : Int32) = 0 := by decide
  have t00 : (0 : Int32) = 0 := rfl
  obtain ⟨r1, X1, v1, M1, e1, m1, fx1, fm1, o1⟩ := jn (lo := 0) (hi := 7) hy hE g ht h5 hM (by omega) (by omega)
  rw [mNum0 h0] at m1
  have e1' : fX2_expectNumber SX 0 7 = some (r1, X1) := e1
  have m1' : fX12_number SM 0 7 = some (v1, M1) := m1
  rw [stamp_e, m1', b1_s]
  unfold fX2_readStamp
  rw [e1', b1_s]
  rcases o1 with ⟨rfl, tc, l1, l2, rfl, rfl, hg, x3, x4, x1, x5⟩ | ⟨rfl, f, pl, xf, mf⟩
  · have D1 := hD.fr hk fx1 (Fr.refl pLx M1)
    obtain ⟨⟨a1, a2, a3, a4, a5, a6, a7⟩, b34, b35, b36, b37, b38⟩ := D1.1 (vl y n t) (by omega)
    have hS : fX3_hasStamp k1 X1 (nI (vl y n t)) = some (zb (st (vl y n t)).isSome) := by
      unfold fX3_hasStamp
      rw [bit1_i (by omega), a6]
      cases (st (vl y n t)).isSome <;> rfl
    show ∃ r SX' SM', (if (1 : Int32) = 0 then some (0, X1) else b1 (fX3_hasStamp k1 X1 (gI_ X1 61 3)) fun x22 => (if x22 = 0 then b1 (fX2_expectNumber X1 1800 2000) fun q23 => (if q23.1 = 0 then some (0, q23.2) else b1 (fX2_expectNumber q23.2 (gI_ q23.2 61 3) 2000) fun q24 => (if q24.1 = 0 then some (0, q24.2) else b1 (fX3_tellStamp k1 q24.2 (gI_ X1 61 3) (gI_ q23.2 61 3) (gI_ q24.2 61 3)) fun S25 => some (1, S25))) else b1 (fX2_fail X1 4) fun q28 => b1 (bz_ q28.1) fun z29 => some (z29, q28.2))) = some (r, SX') ∧ _
    rw [if_neg t10, x3, hS, b1_s]
    cases q : st (vl y n t) with
    | some ab =>
      have n4 : ¬ aI_ M1 34 (vl y n t) = -4 := by
        rw [b34, q]
        have := (hB.1 (vl y n t) (by omega)).1 ab.1 ab.2 q
        exact fun z => (m4_ne (a := ab.1) (by omega)).mp z
      obtain ⟨M2, em, fm, mf⟩ := dup_yes hg.1 hg.2.1 (by omega) n4
      have tl := stamp_f (v := nI (vl y n t)) mf
      rw [dup_f mf] at tl
      rw [em, if_neg (by simp [zb] : ¬ zb (some ab).isSome = 0), fail_x, b1_s]
      exact ⟨0, _, M2, rfl, tl, (fx1.mono pRd_DX).trans (Fr.pI rfl (Fr.pI rfl (Fr.refl _ _)) |>.mono pRd_DX), fm.mono pLx_DM, Or.inr ⟨rfl, 4, _, fail_XF (f := 4) x4, mf⟩⟩
    | none =>
      have y4 : aI_ M1 34 (vl y n t) = -4 := by rw [b34, q]; rfl
      obtain ⟨M2, em2, fm2, hM2⟩ := goes_m hT hn hy hg
      obtain ⟨r2, X2, v2, M3, e2, m2, fx2, fm3, o2⟩ := jn (lo := 1800) (hi := 2000) hy (hE.rd fx1) x1 (by omega) x5 hM2 (by omega) (by omega)
      have e2' : fX2_expectNumber X1 1800 2000 = some (r2, X2) := e2
      have m2' : mNum M2 1800 2000 = some (v2, M3) := m2
      rw [dup_no hg.1 (by omega) y4, b1_s, em2, b1_s, m2', b1_s, if_pos (by rfl : zb (none : Option (Nat × Nat)).isSome = 0), e2', b1_s]
      rcases o2 with ⟨rfl, tc2, l3, l4, rfl, rfl, hg2, z3, z4, z1, z5⟩ | ⟨rfl, f, pl, xf, mf⟩
      · have hT2 : Tap M3 0 36 28 n y := hT.fr fm2 rfl (fun j => rfl)
        obtain ⟨M4, em4, fm4, hM4⟩ := goes_m hT2 hn hy hg2
        obtain ⟨r3, X3, v3, M5, e3, m3, fx3, fm5, o3⟩ := jn (lo := vl y n (t + 1)) (hi := 2000) hy ((hE.rd fx1).rd fx2) z1 (by omega) z5 hM4 (by omega) (by omega)
        have e3' : fX2_expectNumber X2 (nI (vl y n (t + 1))) 2000 = some (r3, X3) := e3
        have m3' : mNum M4 (nI (vl y n (t + 1))) 2000 = some (v3, M5) := m3
        show ∃ r SX' SM', (if (1 : Int32) = 0 then some (0, X2) else b1 (fX2_expectNumber X2 (gI_ X2 61 3) 2000) fun q24 => (if q24.1 = 0 then some (0, q24.2) else b1 (fX3_tellStamp k1 q24.2 (nI (vl y n t)) (gI_ X2 61 3) (gI_ q24.2 61 3)) fun S25 => some (1, S25))) = some (r, SX') ∧ (b1 (fX12_goesOn M3) fun S25 => b1 (mNum S25 (nI (vl y n (t + 1))) 2000) fun w26 => mS3 (nI (vl y n t)) (nI (vl y n (t + 1))) w26) = some SM' ∧ _
        rw [if_neg t10, z3, e3', b1_s, em4, b1_s, m3', b1_s]
        rcases o3 with ⟨rfl, tc3, l5, l6, rfl, rfl, hg3, w3, w4, w1, w5⟩ | ⟨rfl, f, pl, xf, mf⟩
        · have FX : Fr pRd SX X3 := (fx1.trans fx2).trans fx3
          have FM : Fr pLx M1 M5 := fm2.trans fm4
          have D3 := hD.fr hk FX FM
          have fW : Fr pDM M5 (pA_ (pA_ M5 34 (vl y n t) (nI (vl y n (t + 1)))) 35 (vl y n t) (nI (vl y n (t + 1 + 1)))) := Fr.pA rfl (Fr.pA rfl (Fr.refl _ _))
          have pk : ∀ j b, j ≤ 5 → pDX k1 (k1 + j) b = true := fun j b hj => by simp [pDX]; omega
          have fX : Fr (pDX k1) X3 (pI_ (pA_ (pA_ X3 (k1 + 1) (vl y n t) (nI (vl y n (t + 1)))) (k1 + 2) (vl y n t) (nI (vl y n (t + 1 + 1)))) k1 7 (gI_ X3 k1 7 ||| ((1 : Int32) <<< (nI (vl y n t) &&& 31)))) := Fr.pI (pk 0 7 (by omega)) (Fr.pA (pk 2 _ (by omega)) (Fr.pA (pk 1 _ (by omega)) (Fr.refl _ _)))
          have k61 : k1 ≠ 61 := by rcases hk with rfl | rfl <;> omega
          refine ⟨1, _, _, ?_, ?_, (FX.mono pRd_DX).trans fX, (FM.mono pLx_DM).trans fW, Or.inl ⟨rfl, t + 1 + 1, _, ba, le, sc, lim, by omega, tc3, hg3.fr (p := fun a _ => decide (34 ≤ a)) (Fr.pA rfl (Fr.pA rfl (Fr.refl _ _))) (fun b _ _ => rfl), ?_, ?_, D3.stamp hk (by omega), hB.stamp l3 l5 l6⟩⟩
          · show (if (1 : Int32) = 0 then some (0, X3) else b1 (fX3_tellStamp k1 X3 (nI (vl y n t)) (nI (vl y n (t + 1))) (gI_ X3 61 3)) fun S25 => some (1, S25)) = _
            rw [if_neg t10, w3]
            unfold fX3_tellStamp
            rw [wI_n (by omega) (by omega), b1_s, wI_n (by omega) (by omega), b1_s, oI_e, b1_s, b1_s]
            rfl
          · show (if gI_ M5 0 41 = 0 then b1 (wI_ M5 34 8 (nI (vl y n t)) (nI (vl y n (t + 1)))) fun S27 => b1 (wI_ S27 35 8 (nI (vl y n t)) (nI (vl y n (t + 1 + 1)))) fun S28 => some S28 else some M5) = _
            rw [if_pos hg3.1, wI_n (by omega) (by omega), b1_s, wI_n (by omega) (by omega), b1_s]
          · simp only [gI_pI, gI_pL, gI_pA, gI_pB, gI_pR, gI_pW, gL_pI, gL_pL, gL_pA, gL_pB, gL_pR, gL_pW, aI_pI, aI_pL, aI_pA, aI_pB, aI_pR, aI_pW, aL_pI, aL_pL, aL_pA, aL_pB, aL_pR, aL_pW, gR_pI, gR_pL, gR_pA, gR_pB, gR_pR, gR_pW]
            rw [if_neg (fun z => k61 z.1.symm)]; exact w1
          · simp only [gI_pI, gI_pL, gI_pA, gI_pB, gI_pR, gI_pW, gL_pI, gL_pL, gL_pA, gL_pB, gL_pR, gL_pW, aI_pI, aI_pL, aI_pA, aI_pB, aI_pR, aI_pW, aL_pI, aL_pL, aL_pA, aL_pB, aL_pR, aL_pW, gR_pI, gR_pL, gR_pA, gR_pB, gR_pR, gR_pW]
            rw [if_neg (fun z => k61 z.1.symm)]; exact w5
        · refine ⟨0, X3, M5, rfl, ?_, ((fx1.trans fx2).trans fx3).mono pRd_DX, ((fm2.trans fm4).trans fm5).mono pLx_DM, Or.inr ⟨rfl, f, pl, xf, mf⟩⟩
          exact if_neg mf.ne
      · refine ⟨0, X2, M3, rfl, ?_, (fx1.trans fx2).mono pRd_DX, (fm2.trans fm3).mono pLx_DM, Or.inr ⟨rfl, f, pl, xf, mf⟩⟩
        show (b1 (fX12_goesOn M3) fun S25 => b1 (mNum S25 v2 2000) fun w26 => mS3 (nI (vl y n t)) v2 w26) = _
        rw [goes_f mf, b1_s, mNumF mf, b1_s]
        exact if_neg mf.ne
  · have tl := stamp_f (v := v1) mf
    exact ⟨0, X1, M1, rfl, tl, fx1.mono pRd_DX, fm1.mono pLx_DM, Or.inr ⟨rfl, f, pl, xf, mf⟩⟩
end STAMP
