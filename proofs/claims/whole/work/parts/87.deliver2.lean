/-! deliver -/
theorem StB.ix {K : Nat} {kw kh kg ka : Nat → Nat} {p : Nat → Bool} (h : StB K kw kh kg ka) : StB (fb_ct p K) (fun j => kw (ix p K j)) (fun j => kh (ix p K j)) (fun j => kg (ix p K j)) (fun j => ka (ix p K j)) :=
  ⟨Nat.le_trans (fb_ct_le p K) h.1, fun s hs => h.2 _ (ix_lt hs)⟩
theorem OdB.ix {ns n : Nat} {os oa op : Nat → Nat} {q : Nat → Bool} (h : OdB ns n os oa op) : OdB ns (fb_ct q n) (fun j => os (ix q n j)) (fun j => oa (ix q n j)) (fun j => op (ix q n j)) :=
  ⟨Nat.le_trans (fb_ct_le q n) h.1, fun s hs => h.2 _ (ix_lt hs)⟩
def pDx (a b : Nat) : Bool := pFl a b || pSt a b || pOd a b
def pDm (a b : Nat) : Bool := pM2 a b || pSm a b || pOm a b || (a == 0 && (b == 17 || b == 22))
theorem sim_deliver : ∀ (SX SM : St), Rel_ SX SM → ∃ (r : Int32) (S1 S2 : St), fX11_deliver SX = some (r, S1) ∧ fX12_deliver SM = some (r, S2) ∧ Rel_ S1 S2 := by
  intro SX SM h
  obtain ⟨n, K, su, py, SX', SM', hn, hK, g1, g2, g3, g4, e1, e2, f1, f2, r1, r2⟩ := fill_both h
  obtain ⟨hB, hS, hP, hT, hL, hH, hE⟩ := id h
  obtain ⟨ns, sw, sh, pr, ls, tn, ⟨sb, sx, sm⟩, ⟨nk, kw, kh, kg, ka, kb, kx, km⟩, ⟨no, os, oa, op, ob, ox, om⟩⟩ := hS
  have hnk := kb.1
  have hno := ob.1
  obtain rfl : nk = K := (nI_eq (by omega) (by omega)).mp (kx.1.symm.trans g3)
  obtain rfl : no = n := (nI_eq (by omega) (by omega)).mp (ox.1.symm.trans g1)
  have kx' := kx.fr f1 rfl (fun k j z1 z2 => by simp [pFl]; omega)
  have ox' := ox.fr f1 rfl (fun k j z1 z2 => by simp [pFl]; omega)
  have km' := km.fr f2 rfl (fun k j z1 z2 => by simp [pM2]; omega)
  have om' := om.fr f2 rfl (fun k j z1 z2 => by simp [pM2]; omega)
  obtain ⟨m, e3, hm⟩ := given_x hn hK ox'.1 r1
  have tb : ∀ {m}, Msk no nk su py no m → ∀ k, k < nk → m.testBit k = !fB no nk su py no k := fun {m} h k hk => by
    have := h.2.1 k hk
    unfold mB at this
    rw [← this, Bool.not_not]
  obtain ⟨SX2, e4, kx2, f3⟩ := rem_x (m := m) (p := fB no nk su py no) kx' hK (tb hm)
  have ox2 := ox'.fr f3 rfl (fun k j z1 z2 => by simp [pSt]; omega)
  obtain ⟨SX3, e5, ox3, f4⟩ := remF_x (q := fun o => (fg no nk su py o).isNone) ox2 hn (fun o ho => by
    rw [f3.aI rfl, r1 o ho]
    cases c : fg no nk su py o with
    | none => simp [hv]
    | some k =>
      have := (fg_free c).1
      simp only [hv, Option.isNone_some, Bool.false_eq_true, iff_false]
      exact fun z => (m4_ne (a := k) (by omega)).mp z)
  have kx3 := kx2.fr f4 rfl (fun k j z1 z2 => by simp [pOd]; omega)
  obtain ⟨u, e6, ⟨m', u1, um⟩, u2, u3, u4, u5, u6⟩ := del_m12 (q := fun o => (fg no nk su py o).isNone) om' hn hK r2 (fun o => rfl)
  have kM2 : Stk (pI_ u.2.2 0 22 u.2.1) 0 17 13 nk kw kh kg ka := (km'.fr u3 rfl (fun k j z1 z2 => by simp [pOm]; omega)).fr (Fr.pI (p := fun a b => a == 0 && b == 22) rfl (Fr.refl _ _)) rfl (fun k j z1 z2 => by simp; omega)
  obtain ⟨w, e7, w1, w2, w3, w4, w5, w6⟩ := del_m106 (u38 := u) (p := fB no nk su py no) u1 kM2 hK (tb um)
  have FX : Fr pDx SX SX3 := ((f1.mono (by intro a b q; simp [pDx] at q ⊢; exact q.1.1)).trans (f3.mono (by intro a b q; simp [pDx] at q ⊢; exact q.1.2))).trans (f4.mono (by intro a b q; simp [pDx] at q ⊢; exact q.2))
  have FM : Fr pDm SM (pI_ w.2 0 17 w.1) := Fr.pI rfl ((Fr.pI rfl ((f2.mono (by intro a b q; simp only [pDm, Bool.or_eq_false_iff] at q; exact q.1.1.1)).trans (u3.mono (by intro a b q; simp only [pDm, Bool.or_eq_false_iff] at q; exact q.1.2)))).trans (w2.mono (by intro a b q; simp only [pDm, Bool.or_eq_false_iff] at q; exact q.1.1.2)))
  have kX : ∀ i, i < 7 → i ≠ 1 → kp plX i pDx := fun i hi h1 k j z => by
    obtain rfl | rfl | rfl | rfl | rfl | rfl : i = 0 ∨ i = 2 ∨ i = 3 ∨ i = 4 ∨ i = 5 ∨ i = 6 := by omega
    all_goals (simp [plX, Nat.ble_eq] at z; simp [pDx, pFl, pSt, pOd]; omega)
  have kM : ∀ i, i < 7 → i ≠ 1 → kp plM i pDm := fun i hi h1 k j z => by
    obtain rfl | rfl | rfl | rfl | rfl | rfl : i = 0 ∨ i = 2 ∨ i = 3 ∨ i = 4 ∨ i = 5 ∨ i = 6 := by omega
    all_goals (simp [plM, Nat.ble_eq] at z; simp [pDm, pM2, pSm, pOm]; omega)
  refine ⟨nI (dpo no nk su py no (fB no nk su py 0)), SX3, pI_ w.2 0 17 w.1, ?_, ?_, ?_⟩
  · unfold fX11_deliver
    rw [e1, b1_s, e3, b1_s, e4, b1_s, e5, b1_s]
  · unfold fX12_deliver
    rw [e2, b1_s, e6, b1_s, oI_e, b1_s, e7, b1_s, oI_e, b1_s]
  · refine ⟨hB.fr FX FM (kX 0 (by omega) (by omega)) (kM 0 (by omega) (by omega)), ⟨ns, sw, sh, pr, ls, tn, ⟨sb, sx.fr FX rfl (fun k j z1 z2 => by simp [pDx, pFl, pSt, pOd]; omega), sm.fr FM rfl (fun k j z1 z2 => by simp [pDm, pM2, pSm, pOm]; omega)⟩, ⟨_, _, _, _, _, kb.ix (p := fB no nk su py no), kx3, ?_⟩, ⟨_, _, _, _, ob.ix (q := fun o => (fg no nk su py o).isNone), ox3, ?_⟩⟩, hP.fr FX FM (kX 2 (by omega) (by omega)) (kM 2 (by omega) (by omega)), hT.fr FX FM (kX 3 (by omega) (by omega)) (kM 3 (by omega) (by omega)), hL.fr FX FM (kX 4 (by omega) (by omega)) (kM 4 (by omega) (by omega)), hH.fr FX FM (kX 5 (by omega) (by omega)) (kM 5 (by omega) (by omega)), ?_⟩
    · exact ⟨by simp only [gI_pI, gI_pL, gI_pA, gI_pB, gI_pR, gI_pW, gL_pI, gL_pL, gL_pA, gL_pB, gL_pR, gL_pW, aI_pI, aI_pL, aI_pA, aI_pB, aI_pR, aI_pW, aL_pI, aL_pL, aL_pA, aL_pB, aL_pR, aL_pW, gR_pI, gR_pL, gR_pA, gR_pB, gR_pR, gR_pW, and_self, if_true]; exact w1, fun s hs => ⟨w3.1 s hs, w4.1 s hs, w5.1 s hs, w6.1 s hs⟩⟩
    · refine ⟨?_, fun s hs => ⟨?_, ?_, ?_⟩⟩
      · simp only [gI_pI, gI_pL, gI_pA, gI_pB, gI_pR, gI_pW, gL_pI, gL_pL, gL_pA, gL_pB, gL_pR, gL_pW, aI_pI, aI_pL, aI_pA, aI_pB, aI_pR, aI_pW, aL_pI, aL_pL, aL_pA, aL_pB, aL_pR, aL_pW, gR_pI, gR_pL, gR_pA, gR_pB, gR_pR, gR_pW]
        rw [if_neg (by omega), w2.gI rfl]
        simp only [gI_pI, gI_pL, gI_pA, gI_pB, gI_pR, gI_pW, gL_pI, gL_pL, gL_pA, gL_pB, gL_pR, gL_pW, aI_pI, aI_pL, aI_pA, aI_pB, aI_pR, aI_pW, aL_pI, aL_pL, aL_pA, aL_pB, aL_pR, aL_pW, gR_pI, gR_pL, gR_pA, gR_pB, gR_pR, gR_pW, and_self, if_true]; exact u2
      · show aI_ w.2 17 s = _
        rw [w2.aI rfl]; exact u4.1 s hs
      · show aI_ w.2 18 s = _
        rw [w2.aI rfl]; exact u5.1 s hs
      · show aI_ w.2 19 s = _
        rw [w2.aI rfl]; exact u6.1 s hs
    · rw [FX.gI rfl, FM.gI rfl]; exact hE
