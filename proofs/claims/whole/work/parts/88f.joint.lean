/-! reading laws: both readers at one token -/
section JOINT
variable {y : Nat → Nat} {n c : Nat}
def nxp (y : Nat → Nat) (n t : Nat) : Nat := if tst_ y n t < n then tkE y n (tst_ y n t) else n
def HM (y : Nat → Nat) (n t : Nat) (S : St) : Prop := LxR y n (tst_ y n t) S
def HG (y : Nat → Nat) (n t : Nat) (S : St) : Prop := gI_ S 0 41 = 0 ∧ gI_ S 0 38 = nI (tst_ y n t) ∧ gI_ S 0 37 = nI (nxp y n t) ∧ ((kd y n t = 0 ∧ gI_ S 0 39 = 0) ∨ (kd y n t = 2 ∧ gI_ S 0 39 = 2 ∧ gI_ S 0 40 = nI (vl y n t)) ∨ (kd y n t = 3 ∧ gI_ S 0 39 = 3 ∧ gI_ S 0 40 = nI (vl y n t)) ∨ (kd y n t = 4 ∧ gI_ S 0 39 = 4) ∨ ∃ w, w < 5 ∧ kd y n t = 5 + w ∧ gI_ S 0 39 = 1 ∧ gI_ S 0 40 = nI w)
theorem hand {t : Nat} {S : St} (h : HM y n t S) : (kd y n t = 1 ∧ MF S 1 (tst_ y n t)) ∨ (kd y n t ≠ 1 ∧ HG y n t S) := by
  obtain ⟨h1, h2, h3⟩ := h
  have le := tst_le y n t
  by_cases q : tst_ y n t < n
  · obtain ⟨a, b⟩ := h3 q
    have ek : kd y n t = tkK y n (tst_ y n t) := if_pos q
    have ev : vl y n t = tkV y n (tst_ y n t) := if_pos q
    have ep : nxp y n t = tkE y n (tst_ y n t) := if_pos q
    rw [← ek, ← ev] at b
    rw [← ep] at a
    rcases b with ⟨b1', b2, b3⟩ | ⟨b0, b⟩
    · exact Or.inl ⟨b1', b2, b3, by omega, by omega⟩
    · refine Or.inr ⟨?_, b0, h1, a, Or.inr b⟩
      rcases b with ⟨b, _⟩ | ⟨b, _⟩ | ⟨b, _⟩ | ⟨w, _, b, _⟩ <;> omega
  · have e : tst_ y n t = n := by omega
    obtain ⟨a, b, d⟩ := h2 e
    have ek : kd y n t = 0 := if_neg q
    exact Or.inr ⟨by omega, d, h1, by rw [show nxp y n t = n from if_neg q]; exact a, Or.inl ⟨ek, b⟩⟩
theorem nxp_run (t : Nat) : run (fun k => isS (y k)) n (nxp y n t) = tst_ y n (t + 1) := by
  show _ = (if tst_ y n t < n then run (fun k => isS (y k)) n (tkE y n (tst_ y n t)) else n)
  unfold nxp
  by_cases q : tst_ y n t < n
  · rw [if_pos q, if_pos q]
  · rw [if_neg q, if_neg q]; exact run_stop (Nat.le_refl _) (fun h => by omega)
theorem nxp_le (t : Nat) : nxp y n t ≤ n := by
  unfold nxp
  split
  · rename_i q; exact tkE_le q
  · omega
theorem goes_m {t : Nat} {S : St} (ht : Tap S 0 36 28 n y) (hn : n ≤ 200) (hy : ∀ i, i < n → y i < 256) (h : HG y n t S) : ∃ S', fX12_goesOn S = some S' ∧ Fr pLx S S' ∧ HM y n (t + 1) S' := by
  obtain ⟨S', e, f, l⟩ := next_m ht hn hy (nxp_le t) h.2.2.1 h.1
  rw [nxp_run] at l
  refine ⟨S', ?_, f, l⟩
  unfold fX12_goesOn
  rw [if_pos h.1, e, b1_s]
theorem MF.ne {S : St} {f pl : Nat} (h : MF S f pl) : ¬ gI_ S 0 41 = 0 := by
  rw [h.1]
  have := h.2.2.1
  have := h.2.2.2
  exact fun q => by
    have := (nI_eq (b := 0) (by omega) (by omega)).mp q
    omega
theorem goes_f {S : St} {f pl : Nat} (h : MF S f pl) : fX12_goesOn S = some S := by
  unfold fX12_goesOn
  rw [if_neg h.ne]
theorem want_f {S : St} {f s : Nat} (h0 : gI_ S 0 41 = 0) (h : gI_ S 0 38 = nI s) (hf : 1 ≤ f ∧ f ≤ 5) : ∃ S', fX12_wants S 0 (nI f) = some S' ∧ Fr pLx S S' ∧ MF S' f s :=
  ⟨_, wants0 h0, Fr.pI rfl (Fr.pI rfl (Fr.refl _ _)), by simp [gI_pI, gI_pL, gI_pA, gI_pB, gI_pR, gI_pW, gL_pI, gL_pL, gL_pA, gL_pB, gL_pR, gL_pW, aI_pI, aI_pL, aI_pA, aI_pB, aI_pR, aI_pW, aL_pI, aL_pL, aL_pA, aL_pB, aL_pR, aL_pW, gR_pI, gR_pL, gR_pA, gR_pB, gR_pR, gR_pW], by simp only [gI_pI, gI_pL, gI_pA, gI_pB, gI_pR, gI_pW, gL_pI, gL_pL, gL_pA, gL_pB, gL_pR, gL_pW, aI_pI, aI_pL, aI_pA, aI_pB, aI_pR, aI_pW, aL_pI, aL_pL, aL_pA, aL_pB, aL_pR, aL_pW, gR_pI, gR_pL, gR_pA, gR_pB, gR_pR, gR_pW, and_self, if_true]; exact h, hf.1, hf.2⟩
def mNum (S : St) (lo hi : Int32) : Option (Int32 × St) := if gI_ S 0 41 = 0 then b1 (fX12_number S lo hi) fun q => some (q.1, q.2) else some (0, S)
def mLet (S : St) : Option (Int32 × St) := if gI_ S 0 41 = 0 then b1 (fX12_letter S) fun q => some (q.1, q.2) else some (0, S)
theorem b1_eta {α β : Type} (o : Option (α × β)) : (b1 o fun q => some (q.1, q.2)) = o := by cases o <;> rfl
theorem mNum0 {S : St} {lo hi : Int32} (h : gI_ S 0 41 = 0) : mNum S lo hi = fX12_number S lo hi := by unfold mNum; rw [if_pos h, b1_eta]
theorem mLet0 {S : St} (h : gI_ S 0 41 = 0) : mLet S = fX12_letter S := by unfold mLet; rw [if_pos h, b1_eta]
theorem HG.sort {t k : Nat} {S : St} (h : HG y n t S) (hk : 2 ≤ k ∧ k ≤ 4) : (gI_ S 0 39 = nI k) ↔ kd y n t = k := by
  have two : ∀ {a : Nat}, a < 10 → ((nI a = nI k) ↔ a = k) := fun {a} ha => nI_eq (by omega) (by omega)
  rcases h.2.2.2 with ⟨a, b⟩ | ⟨a, b, _⟩ | ⟨a, b, _⟩ | ⟨a, b⟩ | ⟨w, hw, a, b, _⟩
  · rw [a, b]; exact two (a := 0) (by omega)
  · rw [a, b]; exact two (a := 2) (by omega)
  · rw [a, b]; exact two (a := 3) (by omega)
  · rw [a, b]; exact two (a := 4) (by omega)
  · rw [a, b]
    constructor
    · intro q
      have := (two (a := 1) (by omega)).mp q
      omega
    · intro q; omega
theorem vl_num {t : Nat} (h : kd y n t = 3) (hy : ∀ i, i < n → y i < 256) : vl y n t < 100000000 := by
  unfold kd at h
  unfold vl
  split at h
  · rename_i q
    rw [if_pos q]
    unfold tkK at h
    unfold tkV
    split at h
    · omega
    · rename_i hc
      rw [if_neg hc]
      split at h
      · rename_i hd
        rw [if_pos hd]
        split at h
        · rename_i hl
          have bd : ∀ k, k ≤ tkE y n (tst_ y n t) - tst_ y n t → dvl y (tst_ y n t) k ≤ 256 * (11 ^ k) := fun k => by
            induction k with
            | zero => intro _; simp [dvl]
            | succ k ih =>
              intro hk
              have i1 := ih (by omega)
              have l2 := tkE_le (y := y) q
              have i2 := hy (tst_ y n t + k) (by omega)
              have p1 : 1 ≤ 11 ^ k := Nat.le_trans Nat.one_le_two_pow (Nat.pow_le_pow_left (by omega) k)
              show 10 * dvl y (tst_ y n t) k + (y (tst_ y n t + k) - 48) ≤ 256 * 11 ^ (k + 1)
              rw [Nat.pow_succ]
              omega
          have b4 := bd _ (Nat.le_refl _)
          have p4 : 11 ^ (tkE y n (tst_ y n t) - tst_ y n t) ≤ 11 ^ 4 := Nat.pow_le_pow_right (by omega) hl
          have : (11 : Nat) ^ 4 = 14641 := by decide
          omega
        · omega
      · split at h
        · split at h <;> omega
        · split at h <;> omega
  · omega
theorem vl_let {t : Nat} (h : kd y n t = 2) : vl y n t < 8 := by
  unfold kd at h
  unfold vl
  split at h
  · rename_i q
    rw [if_pos q]
    unfold tkK at h
    unfold tkV
    split at h
    · rename_i hc
      rw [if_pos hc]
      unfold isC at hc
      simp at hc
      omega
    · split at h
      · split at h <;> omega
      · split at h
        · split at h <;> omega
        · split at h <;> omega
  · omega
theorem jn {SX SM : St} {t lo hi : Nat} (hy : ∀ i, i < n → y i < 256) (hE : EvT y n c SX) (g : gI_ SX 61 1 = nI t) (ht : t ≤ c) (h5 : gI_ SX 61 5 = 0) (hM : HM y n t SM) (hl : lo ≤ 2000) (hh : hi ≤ 2000) : ∃ r SX' v SM', fX2_expectNumber SX (nI lo) (nI hi) = some (r, SX') ∧ mNum SM (nI lo) (nI hi) = some (v, SM') ∧ Fr pRd SX SX' ∧ Fr pLx SM SM' ∧ ((r = 1 ∧ t < c ∧ lo ≤ vl y n t ∧ vl y n t ≤ hi ∧ v = nI (vl y n t) ∧ SM' = SM ∧ HG y n t SM ∧ gI_ SX' 61 3 = nI (vl y n t) ∧ gI_ SX' 61 4 = nI (tst_ y n t) ∧ gI_ SX' 61 1 = nI (t + 1) ∧ gI_ SX' 61 5 = 0) ∨ (r = 0 ∧ ∃ f pl, XF SX' f pl ∧ MF SM' f pl)) := by
  obtain ⟨r, S1, e, f, hc⟩ := exp_x (k := 3) hE g ht h5 (by omega)
  have e' : fX2_expect SX 3 = some (r, S1) := e
  have t10 : ¬ (1 : Int32) = 0 := by decide
  have t00 : (0 : Int32) = 0 := rfl
  unfold fX2_expectNumber
  rw [e', b1_s]
  rcases hand hM with ⟨k1, mf⟩ | ⟨k1, hg⟩
  · rcases hc with ⟨q, _⟩ | ⟨_, rfl, xf⟩ | ⟨q, _⟩
    · omega
    · refine ⟨0, S1, 0, SM, ?_, ?_, f, Fr.refl _ _, Or.inr ⟨rfl, 1, _, xf, mf⟩⟩
      · show (if (0 : Int32) = 0 then some (0, S1) else _) = _
        rw [if_pos t00]
      · unfold mNum; rw [if_neg mf.ne]
    · exact absurd k1 q
  · rw [mNum0 hg.1]
    unfold fX12_number
    rcases hc with ⟨q, tc, rfl, x3, x4, x1, x5⟩ | ⟨q, _⟩ | ⟨_, q, rfl, xf⟩
    · have s3 : gI_ SM 0 39 = 3 := (hg.sort (k := 3) (by omega)).mpr q
      have m40 : gI_ SM 0 40 = nI (vl y n t) := by
        rcases hg.2.2.2 with ⟨a, _⟩ | ⟨a, _⟩ | ⟨a, _, b⟩ | ⟨a, _⟩ | ⟨w, _, a, _⟩
        · omega
        · omega
        · exact b
        · omega
        · omega
      have vb := vl_num q hy
      rw [if_pos s3, b1_s, wants1, b1_s, if_pos hg.1, m40, in_e SM (nI (vl y n t)) (nI lo) (nI hi) rfl rfl, b1_s]
      show ∃ r SX' v SM', (if (1 : Int32) = 0 then some (0, S1) else b1 (fX11_within S1 (gI_ S1 61 3) (nI lo) (nI hi)) fun x22 => (if x22 = 0 then b1 (fX2_fail S1 3) fun q23 => (if q23.1 = 0 then some (0, q23.2) else some (1, q23.2)) else some (1, S1))) = some (r, SX') ∧ _
      rw [if_neg t10, x3, within_e, b1_s]
      by_cases d : lo ≤ vl y n t ∧ vl y n t ≤ hi
      · have d' : nI lo ≤ nI (vl y n t) ∧ nI (vl y n t) ≤ nI hi := ⟨nI_le d.1 (by omega), nI_le d.2 (by omega)⟩
        rw [if_pos d', if_neg t10, wants1, b1_s, m40]
        exact ⟨1, S1, _, SM, rfl, rfl, f, Fr.refl _ _, Or.inl ⟨rfl, tc, d.1, d.2, rfl, rfl, hg, x3, x4, x1, x5⟩⟩
      · have d' : ¬ (nI lo ≤ nI (vl y n t) ∧ nI (vl y n t) ≤ nI hi) := fun z => d ⟨(nI_leI (by omega) (by omega)).mp z.1, (nI_leI (by omega) (by omega)).mp z.2⟩
        obtain ⟨SM', ew, fw, mw⟩ := want_f (f := 3) hg.1 hg.2.1 (by omega)
        have ew' : fX12_wants SM 0 3 = some SM' := ew
        rw [if_neg d', if_pos t00, ew', b1_s, fail_x, b1_s]
        exact ⟨0, _, _, SM', rfl, rfl, Fr.pI rfl (Fr.pI rfl f), fw, Or.inr ⟨rfl, 3, _, fail_XF (f := 3) x4, mw⟩⟩
    · exact absurd q k1
    · have s3 : ¬ gI_ SM 0 39 = 3 := fun z => q ((hg.sort (k := 3) (by omega)).mp z)
      obtain ⟨SM', ew, fw, mw⟩ := want_f (f := 2) hg.1 hg.2.1 (by omega)
      have ew' : fX12_wants SM 0 2 = some SM' := ew
      rw [if_neg s3, b1_s, ew', b1_s, if_neg mw.ne]
      refine ⟨0, S1, _, SM', ?_, rfl, f, fw, Or.inr ⟨rfl, 2, _, xf, mw⟩⟩
      show (if (0 : Int32) = 0 then some (0, S1) else _) = _
      rw [if_pos t00]
theorem jl {SX SM : St} {t : Nat} (hE : EvT y n c SX) (g : gI_ SX 61 1 = nI t) (ht : t ≤ c) (h5 : gI_ SX 61 5 = 0) (hM : HM y n t SM) : ∃ r SX' v SM', fX2_expect SX 2 = some (r, SX') ∧ mLet SM = some (v, SM') ∧ Fr pRd SX SX' ∧ Fr pLx SM SM' ∧ ((r = 1 ∧ t < c ∧ vl y n t < 8 ∧ v = nI (vl y n t) ∧ SM' = SM ∧ HG y n t SM ∧ gI_ SX' 61 3 = nI (vl y n t) ∧ gI_ SX' 61 4 = nI (tst_ y n t) ∧ gI_ SX' 61 1 = nI (t + 1) ∧ gI_ SX' 61 5 = 0) ∨ (r = 0 ∧ ∃ f pl, XF SX' f pl ∧ MF SM' f pl)) := by
  obtain ⟨r, S1, e, f, hc⟩ := exp_x (k := 2) hE g ht h5 (by omega)
  have e' : fX2_expect SX 2 = some (r, S1) := e
  rcases hand hM with ⟨k1, mf⟩ | ⟨k1, hg⟩
  · rcases hc with ⟨q, _⟩ | ⟨_, rfl, xf⟩ | ⟨q, _⟩
    · omega
    · exact ⟨0, S1, 0, SM, e', by unfold mLet; rw [if_neg mf.ne], f, Fr.refl _ _, Or.inr ⟨rfl, 1, _, xf, mf⟩⟩
    · exact absurd k1 q
  · rw [mLet0 hg.1]
    unfold fX12_letter
    rcases hc with ⟨q, tc, rfl, x3, x4, x1, x5⟩ | ⟨q, _⟩ | ⟨_, q, rfl, xf⟩
    · have s3 : gI_ SM 0 39 = 2 := (hg.sort (k := 2) (by omega)).mpr q
      have m40 : gI_ SM 0 40 = nI (vl y n t) := by
        rcases hg.2.2.2 with ⟨a, _⟩ | ⟨a, _, b⟩ | ⟨a, _⟩ | ⟨a, _⟩ | ⟨w, _, a, _⟩
        · omega
        · exact b
        · omega
        · omega
        · omega
      rw [if_pos s3, b1_s, wants1, b1_s, m40]
      exact ⟨1, S1, _, SM, e', rfl, f, Fr.refl _ _, Or.inl ⟨rfl, tc, vl_let q, rfl, rfl, hg, x3, x4, x1, x5⟩⟩
    · exact absurd q k1
    · have s3 : ¬ gI_ SM 0 39 = 2 := fun z => q ((hg.sort (k := 2) (by omega)).mp z)
      obtain ⟨SM', ew, fw, mw⟩ := want_f (f := 2) hg.1 hg.2.1 (by omega)
      have ew' : fX12_wants SM 0 2 = some SM' := ew
      rw [if_neg s3, b1_s, ew', b1_s]
      exact ⟨0, S1, _, SM', e', rfl, f, fw, Or.inr ⟨rfl, 2, _, xf, mw⟩⟩
/-- the law's end -/
def mEnd (S26 : St) : Option St := (if gI_ S26 0 41 = 0 then b1 ((if gI_ S26 0 39 = 4 then some 1 else some 0) : Option (Int32)) fun w30 => b1 (fX12_wants S26 w30 2) fun S31 => some S31 else some S26)
theorem js {SX SM : St} {t : Nat} (hE : EvT y n c SX) (g : gI_ SX 61 1 = nI t) (ht : t ≤ c) (h5 : gI_ SX 61 5 = 0) (hM : HM y n t SM) : ∃ r SX' SM', fX2_expect SX 4 = some (r, SX') ∧ mEnd SM = some SM' ∧ Fr pRd SX SX' ∧ Fr pLx SM SM' ∧ ((r = 1 ∧ t < c ∧ SM' = SM ∧ HG y n t SM ∧ gI_ SX' 61 1 = nI (t + 1) ∧ gI_ SX' 61 5 = 0) ∨ (r = 0 ∧ ∃ f pl, XF SX' f pl ∧ MF SM' f pl)) := by
  obtain ⟨r, S1, e, f, hc⟩ := exp_x (k := 4) hE g ht h5 (by omega)
  have e' : fX2_expect SX 4 = some (r, S1) := e
  unfold mEnd
  rcases hand hM with ⟨k1, mf⟩ | ⟨k1, hg⟩
  · rcases hc with ⟨q, _⟩ | ⟨_, rfl, xf⟩ | ⟨q, _⟩
    · omega
    · exact ⟨0, S1, SM, e', by rw [if_neg mf.ne], f, Fr.refl _ _, Or.inr ⟨rfl, 1, _, xf, mf⟩⟩
    · exact absurd k1 q
  · rw [if_pos hg.1]
    rcases hc with ⟨q, tc, rfl, x3, x4, x1, x5⟩ | ⟨q, _⟩ | ⟨_, q, rfl, xf⟩
    · have s3 : gI_ SM 0 39 = 4 := (hg.sort (k := 4) (by omega)).mpr q
      rw [if_pos s3, b1_s, wants1, b1_s]
      exact ⟨1, S1, SM, e', rfl, f, Fr.refl _ _, Or.inl ⟨rfl, tc, rfl, hg, x1, x5⟩⟩
    · exact absurd q k1
    · have s3 : ¬ gI_ SM 0 39 = 4 := fun z => q ((hg.sort (k := 4) (by omega)).mp z)
      obtain ⟨SM', ew, fw, mw⟩ := want_f (f := 2) hg.1 hg.2.1 (by omega)
      have ew' : fX12_wants SM 0 2 = some SM' := ew
      rw [if_neg s3, b1_s, ew', b1_s]
      exact ⟨0, S1, SM', e', rfl, f, fw, Or.inr ⟨rfl, 2, _, xf, mw⟩⟩
end JOINT
/-! the drafts -/
section DRAFT
def Dft (k1 : Nat) (SX SM : St) (st : Nat → Option (Nat × Nat)) (ba : Nat → Nat) (le sc : Nat → Option Nat) (lim : Option Nat) (many : Nat) : Prop :=
  (∀ i, i < 8 → (aI_ SX (k1 + 1) i = nI ((st i).getD (1800, 2000)).1 ∧ aI_ SX (k1 + 2) i = nI ((st i).getD (1800, 2000)).2 ∧ aI_ SX (k1 + 3) i = nI (ba i) ∧ aI_ SX (k1 + 4) i = nI ((le i).getD 0) ∧ aI_ SX (k1 + 5) i = sv (sc i) ∧ bt (gI_ SX k1 7) i = (st i).isSome ∧ bt (gI_ SX k1 8) i = (le i).isSome) ∧ aI_ SM 34 i = sv ((st i).map (·.1)) ∧ aI_ SM 35 i = sv ((st i).map (·.2)) ∧ aI_ SM 36 i = nI (ba i) ∧ aI_ SM 37 i = sv (le i) ∧ aI_ SM 38 i = sv (sc i)) ∧
  gI_ SX k1 5 = nI (lim.getD 5) ∧ gI_ SX k1 9 = zb lim.isSome ∧ gI_ SM 0 53 = sv lim ∧ gI_ SX k1 6 = nI many ∧ gI_ SM 0 56 = nI many
def DfB (st : Nat → Option (Nat × Nat)) (ba : Nat → Nat) (le sc : Nat → Option Nat) (lim : Option Nat) : Prop :=
  (∀ i, i < 8 → (∀ a b, st i = some (a, b) → 1800 ≤ a ∧ a ≤ b ∧ b ≤ 2000) ∧ ba i < 256 ∧ ∀ v, le i = some v → v ≤ 5) ∧ Acy sc ∧ ∀ v, lim = some v → v ≤ 50
def isPl (k1 : Nat) : Prop := k1 = 62 ∨ k1 = 68
def pDX (k1 : Nat) (a b : Nat) : Bool := pRd a b || (decide (k1 ≤ a) && decide (a ≤ k1 + 5))
def pDM (a b : Nat) : Bool := pLx a b || (a == 0 && (b == 53 || b == 56)) || (decide (34 ≤ a) && decide (a ≤ 38))
theorem Dft.fr {k1 : Nat} {SX SX' SM SM' : St} {st : Nat → Option (Nat × Nat)} {ba : Nat → Nat} {le sc : Nat → Option Nat} {lim : Option Nat} {many : Nat} (hk : isPl k1) (h : Dft k1 SX SM st ba le sc lim many) (f : Fr pRd SX SX') (g : Fr pLx SM SM') : Dft k1 SX' SM' st ba le sc lim many := by
  have k61 : ∀ j b, pRd (k1 + j) b = false := fun j b => by rcases hk with rfl | rfl <;> (simp [pRd]; omega)
  have k0 : ∀ b, pRd k1 b = false := fun b => k61 0 b
  obtain ⟨h1, h2, h3, h4, h5, h6⟩ := h
  refine ⟨fun i hi => ?_, by rw [f.gI (k0 5)]; exact h2, by rw [f.gI (k0 9)]; exact h3, by rw [g.gI rfl]; exact h4, by rw [f.gI (k0 6)]; exact h5, by rw [g.gI rfl]; exact h6⟩
  obtain ⟨⟨a1, a2, a3, a4, a5, a6, a7⟩, b1', b2, b3, b4, b5⟩ := h1 i hi
  exact ⟨⟨by rw [f.aI (k61 1 i)]; exact a1, by rw [f.aI (k61 2 i)]; exact a2, by rw [f.aI (k61 3 i)]; exact a3, by rw [f.aI (k61 4 i)]; exact a4, by rw [f.aI (k61 5 i)]; exact a5, by rw [f.gI (k0 7)]; exact a6, by rw [f.gI (k0 8)]; exact a7⟩, by rw [g.aI rfl]; exact b1', by rw [g.aI rfl]; exact b2, by rw [g.aI rfl]; exact b3, by rw [g.aI rfl]; exact b4, by rw [g.aI rfl]; exact b5⟩
end DRAFT
