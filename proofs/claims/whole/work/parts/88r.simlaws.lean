/-! laws -/
section LAWS
theorem okD_e {S : St} {L D : Nat} (h : HL S L D) : okL_ (gR_ S 0 12) = some D := by
  unfold okL_
  rw [h.2.1, if_pos]
  rcases h.2.2 with z | z <;> omega
theorem Dft0 {k1 : Nat} {SX SM : St} (hx : F0x k1 SX) (hm : F0m SM) (h3 : gI_ SM 0 53 = -4) (h6 : gI_ SM 0 56 = 0) : Dft k1 SX SM (fun _ => none) (fun _ => 0) (fun _ => none) (fun _ => none) none 0 := by
  obtain ⟨x1, x5, x6, x7, x8, x9⟩ := hx
  refine ⟨fun i hi => ?_, x5, x9, h3, x6, h6⟩
  obtain ⟨a1, a2, a3, a4, a5⟩ := x1 i hi
  obtain ⟨b1', b2, b3, b4, b5⟩ := hm i hi
  have z0 : bt (0 : Int32) i = false := b_0 i
  exact ⟨⟨a1, a2, a3, a4, a5, by rw [x7, z0]; rfl, by rw [x8, z0]; rfl⟩, b1', b2, b3, b4, b5⟩
theorem DfB0 : DfB (fun _ => none) (fun _ => 0) (fun _ => none) (fun _ => none) none :=
  ⟨fun i hi => ⟨fun a b q => by simp at q, (by omega : 0 < 256), fun v q => by simp at q⟩, ⟨fun _ => 0, fun i j hi q => by simp at q⟩, fun v q => by simp at q⟩
def pX (D a b : Nat) : Bool := pDX D a b || pTk a b || (a == 56 && b == 1)
def pM (a b : Nat) : Bool := pDM a b || (a == 0 && b == 36)
theorem read_j {SX SM : St} {L D n : Nat} {y : Nat → Nat} (hH : HL SX L D) (hn : n ≤ 200) (hy : ∀ i, i < n → y i < 256) (tX : Tap SX 56 1 57 n y) (tM : Tap SM 0 36 28 n y) : ∃ X M, fX11_laws SX = (b1 (oI_ X 56 1 0) fun S23 => (if gI_ S23 61 5 = 0 then b1 (okL_ (gR_ S23 0 11)) fun k24 => b1 (okL_ (gR_ S23 0 12)) fun k25 => b1 (oR_ S23 0 11 k25) fun S26 => b1 (oR_ S26 0 12 k24) fun S27 => b1 (okL_ (gR_ S27 0 11)) fun k28 => some (gI_ S27 k28 6, S27) else some ((-10) - (gI_ S23 61 6), S23))) ∧ fX12_laws SM = (b1 (oI_ M 0 36 0) fun S42 => (if gI_ S42 0 41 ≤ 0 then b1 (fX12_takes S42) fun S43 => some (gI_ S43 0 49, S43) else some ((-10) - (gI_ S42 0 42), S42))) ∧ Fr (pX D) SX X ∧ Fr pM SM M ∧ Fin_ D X M := by
  have hk : isPl D := by rcases hH.2.2 with ⟨_, z⟩ | ⟨_, z⟩
                         · exact Or.inr z
                         · exact Or.inl z
  obtain ⟨X1, ex1, fx1, z1⟩ := forget_x D SX
  have fx2 : Fr (pX D) SX (pI_ (pI_ (pI_ X1 61 5 0) 61 6 0) 61 1 0) := Fr.pI rfl (Fr.pI rfl (Fr.pI rfl (fx1.mono (fun a b q => by simp [pX, pDX, pF] at q ⊢; omega))))
  have tX2 : Tap (pI_ (pI_ (pI_ X1 61 5 0) 61 6 0) 61 1 0) 56 1 57 n y := by
    have f : Fr (fun a b => pF D a b || a == 61) SX (pI_ (pI_ (pI_ X1 61 5 0) 61 6 0) 61 1 0) := Fr.pI (by simp) (Fr.pI (by simp) (Fr.pI (by simp) (fx1.mono (fun a b q => by simp at q; exact q.1))))
    exact tX.fr f (by rcases hk with rfl | rfl <;> rfl) (fun j => by rcases hk with rfl | rfl <;> rfl)
  obtain ⟨X3, c, ex3, fx3, c200, g5, gc, gt, tk⟩ := split_x tX2 hn hy
  have hE : EvT y n c X3 := ⟨g5, tk, c200, gc, gt⟩
  have x1 : gI_ X3 61 1 = nI 0 := by rw [fx3.gI rfl]; simp [gI_pI, gI_pL, gI_pA, gI_pB, gI_pR, gI_pW, gL_pI, gL_pL, gL_pA, gL_pB, gL_pR, gL_pW, aI_pI, aI_pL, aI_pA, aI_pB, aI_pR, aI_pW, aL_pI, aL_pL, aL_pA, aL_pB, aL_pR, aL_pW, gR_pI, gR_pL, gR_pA, gR_pB, gR_pR, gR_pW]; rfl
  have x5 : gI_ X3 61 5 = 0 := by rw [fx3.gI rfl]; simp [gI_pI, gI_pL, gI_pA, gI_pB, gI_pR, gI_pW, gL_pI, gL_pL, gL_pA, gL_pB, gL_pR, gL_pW, aI_pI, aI_pL, aI_pA, aI_pB, aI_pR, aI_pW, aL_pI, aL_pL, aL_pA, aL_pB, aL_pR, aL_pW, gR_pI, gR_pL, gR_pA, gR_pB, gR_pR, gR_pW]
  obtain ⟨M2, em2, fm2, z2⟩ := forg_m (pI_ (pI_ (pI_ (pI_ SM 0 41 0) 0 37 0) 0 53 (-4)) 0 56 0)
  have tM2 : Tap M2 0 36 28 n y := by
    have f : Fr (fun a b => pG a b || (a == 0 && (b == 41 || (b == 37 || (b == 53 || b == 56))))) SM M2 := (Fr.pI (by simp) (Fr.pI (by simp) (Fr.pI (by simp) (Fr.pI (by simp) (Fr.refl _ SM))))).trans (fm2.mono (fun a b q => by simp at q; exact q.1))
    exact tM.fr f rfl (fun j => rfl)
  have m37 : gI_ M2 0 37 = nI 0 := by rw [fm2.gI rfl]; simp [gI_pI, gI_pL, gI_pA, gI_pB, gI_pR, gI_pW, gL_pI, gL_pL, gL_pA, gL_pB, gL_pR, gL_pW, aI_pI, aI_pL, aI_pA, aI_pB, aI_pR, aI_pW, aL_pI, aL_pL, aL_pA, aL_pB, aL_pR, aL_pW, gR_pI, gR_pL, gR_pA, gR_pB, gR_pR, gR_pW]; rfl
  have m41 : gI_ M2 0 41 = 0 := by rw [fm2.gI rfl]; simp [gI_pI, gI_pL, gI_pA, gI_pB, gI_pR, gI_pW, gL_pI, gL_pL, gL_pA, gL_pB, gL_pR, gL_pW, aI_pI, aI_pL, aI_pA, aI_pB, aI_pR, aI_pW, aL_pI, aL_pL, aL_pA, aL_pB, aL_pR, aL_pW, gR_pI, gR_pL, gR_pA, gR_pB, gR_pR, gR_pW]
  have m53 : gI_ M2 0 53 = -4 := by rw [fm2.gI rfl]; simp [gI_pI, gI_pL, gI_pA, gI_pB, gI_pR, gI_pW, gL_pI, gL_pL, gL_pA, gL_pB, gL_pR, gL_pW, aI_pI, aI_pL, aI_pA, aI_pB, aI_pR, aI_pW, aL_pI, aL_pL, aL_pA, aL_pB, aL_pR, aL_pW, gR_pI, gR_pL, gR_pA, gR_pB, gR_pR, gR_pW]
  have m56 : gI_ M2 0 56 = 0 := by rw [fm2.gI rfl]; simp [gI_pI, gI_pL, gI_pA, gI_pB, gI_pR, gI_pW, gL_pI, gL_pL, gL_pA, gL_pB, gL_pR, gL_pW, aI_pI, aI_pL, aI_pA, aI_pB, aI_pR, aI_pW, aL_pI, aL_pL, aL_pA, aL_pB, aL_pR, aL_pW, gR_pI, gR_pL, gR_pA, gR_pB, gR_pR, gR_pW]
  obtain ⟨M3, em3, fm3, hM⟩ := next_m tM2 hn hy (Nat.zero_le n) m37 m41
  have hM' : HM y n 0 M3 := hM
  have hD0 : Dft D (pI_ (pI_ (pI_ X1 61 5 0) 61 6 0) 61 1 0) M2 (fun _ => none) (fun _ => 0) (fun _ => none) (fun _ => none) none 0 := by
    have d0 := Dft0 z1 z2 m53 m56
    exact d0.fr hk (Fr.pI rfl (Fr.pI rfl (Fr.pI rfl (Fr.refl pRd X1)))) (Fr.refl _ _)
  have hD : Dft D X3 M3 (fun _ => none) (fun _ => 0) (fun _ => none) (fun _ => none) none 0 := by
    have d1 := hD0.fr hk (Fr.refl pRd _) fm3
    have kt : ∀ j b, pTk (D + j) b = false := fun j b => by rcases hk with rfl | rfl <;> (simp [pTk]; omega)
    have k0 : ∀ b, pTk D b = false := fun b => kt 0 b
    obtain ⟨h1, h2, h3, h4, h5, h6⟩ := d1
    refine ⟨fun i hi => ?_, by rw [fx3.gI (k0 5)]; exact h2, by rw [fx3.gI (k0 9)]; exact h3, h4, by rw [fx3.gI (k0 6)]; exact h5, h6⟩
    obtain ⟨⟨a1, a2, a3, a4, a5, a6, a7⟩, b⟩ := h1 i hi
    exact ⟨⟨by rw [fx3.aI (kt 1 i)]; exact a1, by rw [fx3.aI (kt 2 i)]; exact a2, by rw [fx3.aI (kt 3 i)]; exact a3, by rw [fx3.aI (kt 4 i)]; exact a4, by rw [fx3.aI (kt 5 i)]; exact a5, by rw [fx3.gI (k0 7)]; exact a6, by rw [fx3.gI (k0 8)]; exact a7⟩, b⟩
  have tM3 : Tap M3 0 36 28 n y := tM2.fr fm3 rfl (fun j => rfl)
  obtain ⟨X4, M4, e4, m4, fx4, fm4, fin⟩ := loop_j (c := c) hk hn hy 300 0 0 5000 5000 X3 M3 _ _ _ _ _ (by omega) (by omega) (by omega) hE tM3 x1 (Nat.zero_le c) (Nat.zero_le 0) x5 hM' hD DfB0
  have n0 : nI 0 = (0 : Int32) := rfl
  rw [n0] at e4
  refine ⟨X4, M4, ?_, ?_, (fx2.trans (fx3.mono (fun a b q => by simp [pX] at q; exact q.1.2))).trans (fx4.mono (fun a b q => by simp [pX] at q; exact q.1.1)), ?_, fin⟩
  · unfold fX11_laws
    rw [okD_e hH, b1_s]
    unfold fX2_read
    rw [ex1, b1_s, oI_e, b1_s, oI_e, b1_s, oI_e, b1_s, ex3, b1_s, e4, b1_s, b1_s]
  · unfold fX12_laws
    rw [oI_e, b1_s, oI_e, b1_s, oI_e, b1_s, oI_e, b1_s, em2, b1_s, em3, b1_s, m4, b1_s]
  · have f1 : Fr pM SM (pI_ (pI_ (pI_ (pI_ SM 0 41 0) 0 37 0) 0 53 (-4)) 0 56 0) := Fr.pI rfl (Fr.pI rfl (Fr.pI rfl (Fr.pI rfl (Fr.refl _ _))))
    have g2 : Fr pM (pI_ (pI_ (pI_ (pI_ SM 0 41 0) 0 37 0) 0 53 (-4)) 0 56 0) M2 := fm2.mono (fun a b q => by simp [pM, pDM, pG] at q ⊢; omega)
    have g3 : Fr pM M2 M3 := fm3.mono (fun a b q => by unfold pM at q; rw [Bool.or_eq_false_iff] at q; exact pLx_DM a b q.1)
    have g4 : Fr pM M3 M4 := fm4.mono (fun a b q => by unfold pM at q; rw [Bool.or_eq_false_iff] at q; exact q.1)
    exact ((f1.trans g2).trans g3).trans g4
theorem sim_laws : ∀ (SX SM : St), Rel_ SX SM → ∃ (r : Int32) (S1 S2 : St), fX11_laws SX = some (r, S1) ∧ fX12_laws SM = some (r, S2) ∧ Rel_ S1 S2 := by
  intro SX SM h
  obtain ⟨hRB, hRS, hRP, ⟨n, y, ⟨hn, hy⟩, tX, tM⟩, ⟨L, D, lim0, many0, fr0, to0, ba0, le0, sc0, hH, hB0, lX, lM⟩, hRH, hf⟩ := h
  obtain ⟨X, M, ex, em, fx, fm, fin⟩ := read_j hH hn hy tX tM
  have hLD := hH.2.2
  have fx5 : Fr (pX D) SX (pI_ X 56 1 0) := Fr.pI (by simp [pX]) fx
  have fm5 : Fr pM SM (pI_ M 0 36 0) := Fr.pI rfl fm
  have rT : ∀ {A B : St}, gI_ A 56 1 = 0 → gI_ B 0 36 = 0 → RT A B := fun ha hb => ⟨0, fun _ => 0, ⟨by omega, fun i hi => absurd hi (by omega)⟩, ⟨ha, fun i hi => absurd hi (by omega)⟩, ⟨hb, fun i hi => absurd hi (by omega)⟩⟩
  have gx61 : ∀ j, gI_ (pI_ X 56 1 0) 61 j = gI_ X 61 j := fun j => by simp [gI_pI, gI_pL, gI_pA, gI_pB, gI_pR, gI_pW, gL_pI, gL_pL, gL_pA, gL_pB, gL_pR, gL_pW, aI_pI, aI_pL, aI_pA, aI_pB, aI_pR, aI_pW, aL_pI, aL_pL, aL_pA, aL_pB, aL_pR, aL_pW, gR_pI, gR_pL, gR_pA, gR_pB, gR_pR, gR_pW]
  have gm0 : ∀ j, j ≠ 36 → gI_ (pI_ M 0 36 0) 0 j = gI_ M 0 j := fun j hj => by simp [gI_pI, gI_pL, gI_pA, gI_pB, gI_pR, gI_pW, gL_pI, gL_pL, gL_pA, gL_pB, gL_pR, gL_pW, aI_pI, aI_pL, aI_pA, aI_pB, aI_pR, aI_pW, aL_pI, aL_pL, aL_pA, aL_pB, aL_pR, aL_pW, gR_pI, gR_pL, gR_pA, gR_pB, gR_pR, gR_pW, hj]
  rw [ex, em, oI_e, b1_s, oI_e, b1_s]
  rcases fin with ⟨h5, h41, st, ba, le, sc, lim, many, m200, hD, hB⟩ | ⟨f, pl, xf, mf⟩
  · have i5 : gI_ (pI_ X 56 1 0) 61 5 = 0 := (gx61 5).trans h5
    have i41 : gI_ (pI_ M 0 36 0) 0 41 = 0 := (gm0 41 (by omega)).trans h41
    have i41' : gI_ (pI_ M 0 36 0) 0 41 ≤ 0 := by rw [i41]; decide
    have H5 : HL (pI_ X 56 1 0) L D := ⟨(fx5.gR (by rcases hLD with ⟨rfl, rfl⟩ | ⟨rfl, rfl⟩ <;> rfl)).trans hH.1, (fx5.gR (by rcases hLD with ⟨rfl, rfl⟩ | ⟨rfl, rfl⟩ <;> rfl)).trans hH.2.1, hLD⟩
    have H6 : HL (pR_ (pR_ (pI_ X 56 1 0) 0 11 D) 0 12 L) D L := ⟨by simp [gI_pI, gI_pL, gI_pA, gI_pB, gI_pR, gI_pW, gL_pI, gL_pL, gL_pA, gL_pB, gL_pR, gL_pW, aI_pI, aI_pL, aI_pA, aI_pB, aI_pR, aI_pW, aL_pI, aL_pL, aL_pA, aL_pB, aL_pR, aL_pW, gR_pI, gR_pL, gR_pA, gR_pB, gR_pR, gR_pW], by simp [gI_pI, gI_pL, gI_pA, gI_pB, gI_pR, gI_pW, gL_pI, gL_pL, gL_pA, gL_pB, gL_pR, gL_pW, aI_pI, aI_pL, aI_pA, aI_pB, aI_pR, aI_pW, aL_pI, aL_pL, aL_pA, aL_pB, aL_pR, aL_pW, gR_pI, gR_pL, gR_pA, gR_pB, gR_pR, gR_pW], by omega⟩
    obtain ⟨M6, e6, f6, tk, g46, g49⟩ := takes_m (S := pI_ M 0 36 0) (lim := lim) ((gm0 53 (by omega)).trans hD.2.2.2.1) (fun v q => by have := hB.2.2 v q; omega)
    rw [if_pos i5, okL_e H5, b1_s, okD_e H5, b1_s, oR_e, b1_s, oR_e, b1_s, okL_e H6, b1_s, if_pos i41', e6, b1_s]
    have d6 : D ≠ 56 ∧ D ≠ 61 ∧ D ≠ 0 := by rcases hLD with ⟨_, rfl⟩ | ⟨_, rfl⟩ <;> omega
    have gD : ∀ j, gI_ (pR_ (pR_ (pI_ X 56 1 0) 0 11 D) 0 12 L) D j = gI_ X D j := fun j => by simp [gI_pI, gI_pL, gI_pA, gI_pB, gI_pR, gI_pW, gL_pI, gL_pL, gL_pA, gL_pB, gL_pR, gL_pW, aI_pI, aI_pL, aI_pA, aI_pB, aI_pR, aI_pW, aL_pI, aL_pL, aL_pA, aL_pB, aL_pR, aL_pW, gR_pI, gR_pL, gR_pA, gR_pB, gR_pR, gR_pW, d6.1]
    have rx : gI_ (pR_ (pR_ (pI_ X 56 1 0) 0 11 D) 0 12 L) D 6 = nI many := (gD 6).trans hD.2.2.2.2.1
    have rm : gI_ M6 0 49 = nI many := (g49.trans (gm0 56 (by omega))).trans hD.2.2.2.2.2
    have FX : Fr (fun a b => pX D a b || (a == 0 && (b == 11 || b == 12))) SX (pR_ (pR_ (pI_ X 56 1 0) 0 11 D) 0 12 L) := Fr.pR (by simp) (Fr.pR (by simp) (fx5.mono (fun a b q => by rw [Bool.or_eq_false_iff] at q; exact q.1)))
    have FM : Fr (fun a b => pM a b || pU a b) SM M6 := (fm5.mono (fun a b q => by rw [Bool.or_eq_false_iff] at q; exact q.1)).trans (f6.mono (fun a b q => by rw [Bool.or_eq_false_iff] at q; exact q.2))
    refine ⟨nI many, _, M6, by rw [rx], by rw [rm], hRB.fr FX FM ?_ ?_, hRS.fr FX FM ?_ ?_, hRP.fr FX FM ?_ ?_, rT ?_ ?_, ⟨D, L, lim.getD 5, many, fun i => ((st i).getD (1800, 2000)).1, fun i => ((st i).getD (1800, 2000)).2, ba, fun i => (le i).getD 0, sc, H6, ?_, ?_, ?_⟩, hRH.fr FX FM ?_ ?_, ?_⟩
    · intro k j z; rcases hLD with ⟨_, rfl⟩ | ⟨_, rfl⟩ <;> (simp [plX, pX, pDX, pRd, pTk, Nat.ble_eq] at z ⊢; omega)
    · intro k j z; simp [plM, pM, pDM, pLx, pU, pT, Nat.ble_eq] at z ⊢; omega
    · intro k j z; rcases hLD with ⟨_, rfl⟩ | ⟨_, rfl⟩ <;> (simp [plX, pX, pDX, pRd, pTk, Nat.ble_eq] at z ⊢; omega)
    · intro k j z; simp [plM, pM, pDM, pLx, pU, pT, Nat.ble_eq] at z ⊢; omega
    · intro k j z; rcases hLD with ⟨_, rfl⟩ | ⟨_, rfl⟩ <;> (simp [plX, pX, pDX, pRd, pTk, Nat.ble_eq] at z ⊢; omega)
    · intro k j z; simp [plM, pM, pDM, pLx, pU, pT, Nat.ble_eq] at z ⊢; omega
    · simp [gI_pI, gI_pL, gI_pA, gI_pB, gI_pR, gI_pW, gL_pI, gL_pL, gL_pA, gL_pB, gL_pR, gL_pW, aI_pI, aI_pL, aI_pA, aI_pB, aI_pR, aI_pW, aL_pI, aL_pL, aL_pA, aL_pB, aL_pR, aL_pW, gR_pI, gR_pL, gR_pA, gR_pB, gR_pR, gR_pW]
    · rw [f6.gI rfl]; simp [gI_pI, gI_pL, gI_pA, gI_pB, gI_pR, gI_pW, gL_pI, gL_pL, gL_pA, gL_pB, gL_pR, gL_pW, aI_pI, aI_pL, aI_pA, aI_pB, aI_pR, aI_pW, aL_pI, aL_pL, aL_pA, aL_pB, aL_pR, aL_pW, gR_pI, gR_pL, gR_pA, gR_pB, gR_pR, gR_pW]
    · refine ⟨?_, m200, hB.2.1, fun i hi => ?_⟩
      · cases lim with
        | none => simp
        | some v => exact hB.2.2 v rfl
      · obtain ⟨q1, q2, q3⟩ := hB.1 i hi
        refine ⟨?_, ?_, q2, ?_⟩
        · cases e : st i with
          | none => simp [e]
          | some ab =>
            have := q1 ab.1 ab.2 e
            simp [e]; omega
        · cases e : st i with
          | none => simp [e]
          | some ab =>
            have := q1 ab.1 ab.2 e
            simp [e]; omega
        · cases e : le i with
          | none => simp [e]
          | some v => have := q3 v e; simp [e]; omega
    · refine ⟨(gD 5).trans hD.2.1, rx, fun i hi => ?_⟩
      obtain ⟨⟨a1, a2, a3, a4, a5, _⟩, _⟩ := hD.1 i hi
      exact ⟨a1, a2, a3, a4, a5⟩
    · refine ⟨g46, rm, fun i hi => ?_⟩
      obtain ⟨_, b1', b2, b3, b4, b5⟩ := hD.1 i hi
      obtain ⟨t1, t2, t3, t4, t5⟩ := tk i hi
      obtain ⟨q1, q2, q3⟩ := hB.1 i hi
      simp only [aI_pI] at t1 t2 t3 t4 t5
      have s1 := dv4_s ((st i).map (·.1)) 1800 (fun v q => by
        cases e : st i with
        | none => rw [e] at q; simp at q
        | some ab => rw [e] at q; simp at q; have := q1 ab.1 ab.2 e; omega)
      have s2 := dv4_s ((st i).map (·.2)) 2000 (fun v q => by
        cases e : st i with
        | none => rw [e] at q; simp at q
        | some ab => rw [e] at q; simp at q; have := q1 ab.1 ab.2 e; omega)
      have s4 := dv4_s (le i) 0 (fun v q => by have := q3 v q; omega)
      have o1 : ((st i).map (·.1)).getD 1800 = ((st i).getD (1800, 2000)).1 := by cases st i <;> rfl
      have o2 : ((st i).map (·.2)).getD 2000 = ((st i).getD (1800, 2000)).2 := by cases st i <;> rfl
      rw [b1'] at t1
      rw [b2] at t2
      rw [b3] at t3
      rw [b4] at t4
      rw [b5] at t5
      rw [o1] at s1
      rw [o2] at s2
      exact ⟨t1.trans s1, t2.trans s2, t3, t4.trans s4, t5⟩
    · intro k j z; rcases hLD with ⟨_, rfl⟩ | ⟨_, rfl⟩ <;> (simp [plX, pX, pDX, pRd, pTk, Nat.ble_eq] at z ⊢; omega)
    · intro k j z; simp [plM, pM, pDM, pLx, pU, pT, Nat.ble_eq] at z ⊢; omega
    · rw [f6.gI rfl, i41]; exact i5
  · have x5 : gI_ (pI_ X 56 1 0) 61 5 = nI f := (gx61 5).trans xf.1
    have x6 : gI_ (pI_ X 56 1 0) 61 6 = nI pl := (gx61 6).trans xf.2
    have m5 : gI_ (pI_ M 0 36 0) 0 41 = nI f := (gm0 41 (by omega)).trans mf.1
    have m6 : gI_ (pI_ M 0 36 0) 0 42 = nI pl := (gm0 42 (by omega)).trans mf.2.1
    have mf' : MF (pI_ M 0 36 0) f pl := ⟨m5, m6, mf.2.2⟩
    have nx : ¬ gI_ (pI_ X 56 1 0) 61 5 = 0 := by rw [x5, ← m5]; exact mf'.ne
    rw [if_neg nx, if_neg mf'.nle, x6, m6]
    refine ⟨_, _, _, rfl, rfl, hRB.fr fx5 fm5 ?_ ?_, hRS.fr fx5 fm5 ?_ ?_, hRP.fr fx5 fm5 ?_ ?_, rT ?_ ?_, ⟨L, D, lim0, many0, fr0, to0, ba0, le0, sc0, ⟨(fx5.gR ?_).trans hH.1, (fx5.gR ?_).trans hH.2.1, hLD⟩, hB0, lX.fr fx5 ?_ ?_ ?_, lM.fr fm5 rfl rfl ?_⟩, hRH.fr fx5 fm5 ?_ ?_, x5.trans m5.symm⟩
    · intro k j z; rcases hLD with ⟨_, rfl⟩ | ⟨_, rfl⟩ <;> (simp [plX, pX, pDX, pRd, pTk, Nat.ble_eq] at z ⊢; omega)
    · intro k j z; simp [plM, pM, pDM, pLx, Nat.ble_eq] at z ⊢; omega
    · intro k j z; rcases hLD with ⟨_, rfl⟩ | ⟨_, rfl⟩ <;> (simp [plX, pX, pDX, pRd, pTk, Nat.ble_eq] at z ⊢; omega)
    · intro k j z; simp [plM, pM, pDM, pLx, Nat.ble_eq] at z ⊢; omega
    · intro k j z; rcases hLD with ⟨_, rfl⟩ | ⟨_, rfl⟩ <;> (simp [plX, pX, pDX, pRd, pTk, Nat.ble_eq] at z ⊢; omega)
    · intro k j z; simp [plM, pM, pDM, pLx, Nat.ble_eq] at z ⊢; omega
    · simp [gI_pI, gI_pL, gI_pA, gI_pB, gI_pR, gI_pW, gL_pI, gL_pL, gL_pA, gL_pB, gL_pR, gL_pW, aI_pI, aI_pL, aI_pA, aI_pB, aI_pR, aI_pW, aL_pI, aL_pL, aL_pA, aL_pB, aL_pR, aL_pW, gR_pI, gR_pL, gR_pA, gR_pB, gR_pR, gR_pW]
    · simp [gI_pI, gI_pL, gI_pA, gI_pB, gI_pR, gI_pW, gL_pI, gL_pL, gL_pA, gL_pB, gL_pR, gL_pW, aI_pI, aI_pL, aI_pA, aI_pB, aI_pR, aI_pW, aL_pI, aL_pL, aL_pA, aL_pB, aL_pR, aL_pW, gR_pI, gR_pL, gR_pA, gR_pB, gR_pR, gR_pW]
    · rcases hLD with ⟨rfl, rfl⟩ | ⟨rfl, rfl⟩ <;> rfl
    · rcases hLD with ⟨rfl, rfl⟩ | ⟨rfl, rfl⟩ <;> rfl
    · rcases hLD with ⟨rfl, rfl⟩ | ⟨rfl, rfl⟩ <;> rfl
    · rcases hLD with ⟨rfl, rfl⟩ | ⟨rfl, rfl⟩ <;> rfl
    · intro k j z1 z2; rcases hLD with ⟨rfl, rfl⟩ | ⟨rfl, rfl⟩ <;> (simp [pX, pDX, pRd, pTk]; omega)
    · intro k j z1 z2; simp [pM, pDM, pLx]; omega
    · intro k j z; rcases hLD with ⟨_, rfl⟩ | ⟨_, rfl⟩ <;> (simp [plX, pX, pDX, pRd, pTk, Nat.ble_eq] at z ⊢; omega)
    · intro k j z; simp [plM, pM, pDM, pLx, Nat.ble_eq] at z ⊢; omega
end LAWS
