/-! filled -/
theorem fill_both {SX SM : St} (h : Rel_ SX SM) : ∃ (n K : Nat) (su : Nat → Nat → Bool) (py : Nat → Nat) (SX' SM' : St), n ≤ 8 ∧ K ≤ 12 ∧ gI_ SX 42 5 = nI n ∧ gI_ SM 0 22 = nI n ∧ gI_ SX 37 4 = nI K ∧ gI_ SM 0 17 = nI K ∧ fX4_fill SX = some (nI (dpo n K su py n (fB n K su py 0)), SX') ∧ fX12_findFilled SM = some (nI (dpo n K su py n (fB n K su py 0)), SM') ∧ Fr pFl SX SX' ∧ Fr pM2 SM SM' ∧ (∀ o, o < n → aI_ SX' 46 o = hv (fg n K su py o)) ∧ ∀ o, o < n → aI_ SM' 21 o = hv (fg n K su py o) := by
  obtain ⟨hB, hS, hP, hT, hL, hH, hE⟩ := id h
  obtain ⟨ns, sw, sh, pr, ls, tn, ⟨sb, sx, sm⟩, ⟨nk, kw, kh, kg, ka, kb, kx, km⟩, ⟨no, os, oa, op, ob, ox, om⟩⟩ := hS
  have pb : ∀ o, o < no → 1 ≤ op o ∧ op o ≤ 1000 := fun o ho => (ob.2 o ho).2.2
  obtain ⟨SX', e1, f1, r1⟩ := fill_x (S := SX) (n := no) (K := nk) (su := fun o k => dfr sw sh ls tn kw kh kg ka os oa k o) (py := op) ob.1 kb.1 kx.1 ox.1 (fun o ho => (ox.2 o ho).2.2) pb (fun S' f k o hk ho => dfr_x (sx.fr f rfl (fun k j z1 z2 => by simp [p47]; omega)) sb (kx.fr f rfl (fun k j z1 z2 => by simp [p47]; omega)) kb (ox.fr f rfl (fun k j z1 z2 => by simp [p47]; omega)) ob hk ho)
  obtain ⟨SM', e2, f2, r2⟩ := find_m (S := SM) (n := no) (K := nk) (su := fun o k => dfr sw sh ls tn kw kh kg ka os oa k o) (py := op) ob.1 kb.1 pb (fun S' f => by
    have om' := om.fr f rfl (fun k j z1 z2 => by simp [pM2]; omega)
    have km' := km.fr f rfl (fun k j z1 z2 => by simp [pM2]; omega)
    exact ⟨om'.1, km'.1, fun o ho => (om'.2 o ho).2.2, fun k o hk ho => dfr_m (sm.fr f rfl (fun k j z1 z2 => by simp [pM2]; omega)) sb km' kb om' ob hk ho⟩)
  exact ⟨no, nk, _, op, SX', SM', ob.1, kb.1, ox.1, om.1, kx.1, km.1, e1, e2, f1, f2, r1, r2⟩
theorem sim_filled : ∀ (SX SM : St) (a1 : Int32), Rel_ SX SM → ∃ (r : Int32) (S1 S2 : St), fX11_filled SX a1 = some (r, S1) ∧ fX12_filled SM a1 = some (r, S2) ∧ Rel_ S1 S2 := by
  intro SX SM a1 h
  obtain ⟨n, K, su, py, SX', SM', hn, hK, g1, g2, g3, g4, e1, e2, f1, f2, r1, r2⟩ := fill_both h
  have keep : Rel_ SX' SM' := keepScr h (f1.mono (by intro a b q; simp [pFl, scX] at q ⊢; omega)) (f2.mono (by intro a b q; simp [pM2, scM] at q ⊢; omega))
  have g1' : gI_ SX' 42 5 = nI n := by rw [f1.gI rfl]; exact g1
  have g2' : gI_ SM' 0 22 = nI n := by rw [f2.gI rfl]; exact g2
  have e9 : (9 : Int32) + nI n = nI (9 + n) := nI_add 9 n
  have t10 : ¬ (1 : Int32) = 0 := by decide
  have t00 : (0 : Int32) = 0 := rfl
  have l4 := two_le hK
  obtain ⟨m, e3, hm⟩ := given_x hn hK g1' r1
  have ml : m < 4096 := by have := hm.1; omega
  have e4 := pc32_n SX' ml
  have e5 := count_m (q := (nI (dpo n K su py n (fB n K su py 0)), SM')) hn hK g2' r2
  unfold fX11_filled fX12_filled
  rw [within_e, within_e, (in_e SM a1 0 1 (B := 0) (C := 1) rfl rfl), b1_s, b1_s, b1_s, g1, g2, (in_e SM a1 10 (9 + nI n) (B := 10) (C := (9 + nI n : Int32).toInt64) rfl rfl), b1_s]
  by_cases c : 0 ≤ a1 ∧ a1 ≤ 1
  · have n10 : ¬ (10 ≤ a1 ∧ a1 ≤ 9 + nI n) := fun q => by
      have h1 := Int32.le_iff_toInt_le.mp q.1
      have h2 := Int32.le_iff_toInt_le.mp c.2
      have h3 : (10 : Int32).toInt = 10 := rfl
      have h4 : (1 : Int32).toInt = 1 := rfl
      omega
    rw [if_pos c, if_neg t10, if_neg t10, bs_l, bs_l, if_neg n10, e1, b1_s, e2, b1_s, if_pos t00, e5, b1_s]
    obtain ⟨j, hj1, hj2, rfl⟩ := in_rng (a := 0) (b := 1) (by omega) c (by omega)
    obtain rfl | rfl : j = 0 ∨ j = 1 := by omega
    · exact ⟨_, _, _, rfl, rfl, keep⟩
    · have n0 : ¬ nI 1 = (0 : Int32) := by decide
      have y1 : nI 1 = (1 : Int32) := rfl
      rw [if_neg n0, e3, b1_s, e4, b1_s, if_neg n0, if_pos y1, hm.2.2]
      exact ⟨_, _, _, rfl, rfl, keep⟩
  · rw [if_neg c, if_pos t00, if_pos t00]
    by_cases d : 10 ≤ a1 ∧ a1 ≤ 9 + nI n
    · rw [if_pos d, if_neg t10, if_neg t10, bs_l, bs_l, e1, b1_s, e2, b1_s, if_neg t10, e5, b1_s]
      rw [e9] at d
      obtain ⟨j, hj1, hj2, rfl⟩ := in_rng (a := 10) (by omega) d (by omega)
      have ne : ∀ k, k < 10 → ¬ nI j = nI k := fun k hk q => by
        have := (nI_eq (by omega) (by omega)).mp q
        omega
      have n0 : ¬ nI j = (0 : Int32) := ne 0 (by omega)
      have n1 : ¬ nI j = (1 : Int32) := ne 1 (by omega)
      have es : nI j - 10 = nI (j - 10) := nI_sub (b := 10) hj1
      rw [if_neg n0, if_neg n1, es, rI_n (by omega) (by omega), b1_s, rI_n (by omega) (by omega), b1_s, r1 (j - 10) (by omega)]
      refine ⟨hv (fg n K su py (j - 10)), SX', SM', rfl, ?_, keep⟩
      show some (aI_ SM' 21 (j - 10), SM') = _
      rw [r2 (j - 10) (by omega)]
    · exact ⟨-1, SX, SM, by rw [if_neg d, if_pos t00]; rfl, by rw [if_neg d, if_pos t00]; rfl, h⟩
