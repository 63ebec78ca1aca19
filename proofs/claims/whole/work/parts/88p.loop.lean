/-! reading laws: the whole tape, both readers -/
section LOOP
variable {y : Nat → Nat} {n c k1 : Nat}
def Fin_ (k1 : Nat) (SX SM : St) : Prop := (gI_ SX 61 5 = 0 ∧ gI_ SM 0 41 = 0 ∧ ∃ st ba le sc lim many, many ≤ 200 ∧ Dft k1 SX SM st ba le sc lim many ∧ DfB st ba le sc lim) ∨ Bdd SX SM
theorem rd_end (k1 : Nat) (m : Nat) (v : Int32) (S : St) : lp (fun w26 : Int32 × Int32 × St => bX2_read_30 k1 w26.1 w26.2.1 w26.2.2) (m + 1) (0, v, S) = some S := by
  apply lp_r
  show bX2_read_30 k1 0 v S = _
  unfold bX2_read_30
  by_cases q : 200 < v
  · rw [if_pos q]
  · rw [if_neg q]; rfl
theorem rd_step {k1 many : Nat} {S S' : St} {r : Int32} (m : Nat) (hm : many ≤ 200) (e : fX2_readLaw k1 S = some (r, S')) : lp (fun w26 : Int32 × Int32 × St => bX2_read_30 k1 w26.1 w26.2.1 w26.2.2) (m + 1) (1, nI many, S) = lp (fun w26 : Int32 × Int32 × St => bX2_read_30 k1 w26.1 w26.2.1 w26.2.2) m (r, nI (many + 1), S') := by
  have t10 : ¬ (1 : Int32) = 0 := by decide
  have t2 : ¬ (200 : Int32) < nI many := fun z => by
    have := (nI_ltI (a := 200) (b := many) (by omega) (by omega)).mp z
    omega
  have ea : nI many + 1 = nI (many + 1) := nI_add _ 1
  apply lp_l
  show bX2_read_30 k1 1 (nI many) S = _
  unfold bX2_read_30
  rw [if_neg t2, if_neg t10, e, b1_s, ea]
theorem md_end {S : St} (m : Nat) (h : ¬ gI_ S 0 41 = 0 ∨ gI_ S 0 39 = 0) : lp (fun w36 : St => bX12_laws_78 w36) (m + 1) S = some S := by
  apply lp_r
  show bX12_laws_78 S = _
  unfold bX12_laws_78
  by_cases q : gI_ S 0 41 = 0
  · rw [if_pos q]
    rcases h with h | h
    · exact absurd q h
    · rw [if_pos h]
  · rw [if_neg q]
theorem md_step {S S' : St} (m : Nat) (h : gI_ S 0 41 = 0) (h2 : ¬ gI_ S 0 39 = 0) (e : fX12_readLaw S = some S') : lp (fun w36 : St => bX12_laws_78 w36) (m + 1) S = lp (fun w36 : St => bX12_laws_78 w36) m S' := by
  apply lp_l
  show bX12_laws_78 S = _
  unfold bX12_laws_78
  rw [if_pos h, if_neg h2, e, b1_s]
theorem HG.s0 {t : Nat} {S : St} (h : HG y n t S) (hk : kd y n t ≠ 0) : ¬ gI_ S 0 39 = 0 := by
  rcases h.2.2.2 with ⟨a, _⟩ | ⟨_, b, _⟩ | ⟨_, b, _⟩ | ⟨_, b⟩ | ⟨_, _, _, b, _⟩
  · exact absurd a hk
  all_goals (rw [b]; decide)
theorem HG.e0 {t : Nat} {S : St} (h : HG y n t S) (hk : kd y n t = 0) : gI_ S 0 39 = 0 := by
  rcases h.2.2.2 with ⟨_, b⟩ | ⟨a, _⟩ | ⟨a, _⟩ | ⟨a, _⟩ | ⟨_, _, a, _⟩
  · exact b
  all_goals omega
theorem loop_j (hk : isPl k1) (hn : n ≤ 200) (hy : ∀ i, i < n → y i < 256) : ∀ (d t many m m' : Nat) (SX SM : St) (st : Nat → Option (Nat × Nat)) (ba : Nat → Nat) (le sc : Nat → Option Nat) (lim : Option Nat), c - t < d → d + 1 ≤ m → d + 1 ≤ m' → EvT y n c SX → Tap SM 0 36 28 n y → gI_ SX 61 1 = nI t → t ≤ c → many ≤ t → gI_ SX 61 5 = 0 → HM y n t SM → Dft k1 SX SM st ba le sc lim many → DfB st ba le sc lim → ∃ SX' SM', lp (fun w26 : Int32 × Int32 × St => bX2_read_30 k1 w26.1 w26.2.1 w26.2.2) m (1, nI many, SX) = some SX' ∧ lp (fun w36 : St => bX12_laws_78 w36) m' SM = some SM' ∧ Fr (pDX k1) SX SX' ∧ Fr pDM SM SM' ∧ Fin_ k1 SX' SM' := by
  intro d
  induction d with
  | zero => intro t many m m' SX SM st ba le sc lim h; omega
  | succ d ih =>
    intro t many m m' SX SM st ba le sc lim h hm hm' hE hT g ht hmt h5 hM hD hB
    obtain ⟨m0, rfl⟩ : ∃ m0, m = m0 + 1 + 1 := ⟨m - 2, by omega⟩
    obtain ⟨m1, rfl⟩ : ∃ m1, m' = m1 + 1 + 1 := ⟨m' - 2, by omega⟩
    have c200 : c ≤ 200 := hE.2.2.1
    obtain ⟨X1, e, f, a2, a3, a4, a1, a5⟩ := adv_x hE g ht
    have lx := law_x (k1 := k1) e a2 (kd_le y n t)
    rcases hand hM with ⟨hb, mf⟩ | ⟨_, hg⟩
    · rw [hb] at lx
      have lx' : fX2_readLaw k1 SX = b1 (fX2_fail X1 1) (xAf k1) := lx
      rw [fail_x, b1_s] at lx'
      have lx2 : fX2_readLaw k1 SX = some (0, pI_ (pI_ X1 61 5 1) 61 6 (gI_ X1 61 4)) := lx'
      refine ⟨pI_ (pI_ X1 61 5 1) 61 6 (gI_ X1 61 4), SM, ?_, md_end _ (Or.inl mf.ne), (Fr.pI rfl (Fr.pI rfl f)).mono pRd_DX, Fr.refl _ _, Or.inr ⟨1, _, fail_XF (f := 1) a4, mf⟩⟩
      rw [rd_step _ (by omega) lx2, rd_end]
    · by_cases k0 : kd y n t = 0
      · rw [if_pos k0] at lx
        refine ⟨X1, SM, ?_, md_end _ (Or.inr (hg.e0 k0)), f.mono pRd_DX, Fr.refl _ _, Or.inl ⟨a5.trans h5, hg.1, st, ba, le, sc, lim, many, by omega, hD.fr hk f (Fr.refl _ _), hB⟩⟩
        rw [rd_step _ (by omega) lx, rd_end]
      · obtain ⟨r, X2, M2, ex, em, fx, fm, oo⟩ := j_law hk hn hy hE g ht h5 hg k0 hT hD hB
        rw [rd_step _ (by omega) ex, md_step _ hg.1 (hg.s0 k0) em]
        rcases oo with ⟨rfl, t', st', ba', le', sc', lim', l1, l2, l3, l4, l5, l6, l7⟩ | ⟨rfl, ff, pl, xf, mf⟩
        · have hE2 : EvT y n c X2 := hE.fr fx (by rcases hk with rfl | rfl <;> rfl) (fun k j z1 z2 => by rcases hk with rfl | rfl <;> (simp [pDX, pRd]; omega))
          have hT2 : Tap M2 0 36 28 n y := hT.fr fm rfl (fun j => rfl)
          obtain ⟨X3, M3, e3, m3, fx3, fm3, o3⟩ := ih t' (many + 1) (m0 + 1) (m1 + 1) X2 M2 st' ba' le' sc' lim' (by omega) (by omega) (by omega) hE2 hT2 l4 l2 (by omega) l5 l3 l6 l7
          exact ⟨X3, M3, e3, m3, fx.trans fx3, fm.trans fm3, o3⟩
        · exact ⟨X2, M2, rd_end _ _ _ _, md_end _ (Or.inl mf.ne), fx, fm, Or.inr ⟨ff, pl, xf, mf⟩⟩
end LOOP
