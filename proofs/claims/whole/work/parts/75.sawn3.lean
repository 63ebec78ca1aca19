/-! sawn -/
theorem XW.frT {gr : Nat → Nat} {vc : Nat} {vw : Nat → Nat → Bool} {n : Nat} {sw sh pr ls : Nat → Nat} {tn : Nat → Bool} {W H : Nat} {S S' : St} (h : XW gr vc vw n sw sh pr ls tn W H S) (hf : Fr pTal S S') : XW gr vc vw n sw sh pr ls tn W H S' :=
  ⟨h.1.fr hf rfl (fun k j z1 z2 => by simp [pTal]; omega), fun y hy x hx i hi => by rw [hf.aI rfl]; exact h.2.1 y hy x hx i hi, fun w h' a b c d s hs => by rw [hf.aI rfl]; exact h.2.2 w h' a b c d s hs⟩
theorem sawn_ok {S : St} {ns : Nat} (hn : ns ≤ 8) (g : gI_ S 0 9 = nI ns) (v1 : Int32) {ρ : Type} (r : ρ) : ((if v1 < 10 then some (.inr r) else b1 (fX12_isShape S (v1 - 10)) fun x58 => (if x58 = 0 then some (.inr r) else some (.inl ()))) : Option (Unit ⊕ ρ)) = if 10 ≤ v1 ∧ v1 ≤ 9 + nI ns then some (.inl ()) else some (.inr r) := by
  have e9 : (9 : Int32) + nI ns = nI (9 + ns) := nI_add 9 ns
  by_cases c : v1 < 10
  · rw [if_pos c, if_neg (fun q => by
      have := Int32.le_iff_toInt_le.mp q.1
      have := Int32.lt_iff_toInt_lt.mp c
      omega)]
  · rw [if_neg c, isShape_m g, b1_s]
    by_cases d : 0 ≤ v1 - 10 ∧ v1 - 10 ≤ nI ns - 1
    · obtain ⟨x, hx, e⟩ := (in_nat (by omega)).mp d
      have ev : v1 = nI (x + 10) := by
        rw [← Int32.sub_add_cancel v1 10, e]; exact nI_add x 10
      have t10 : ¬ (1 : Int32) = 0 := by decide
      rw [if_pos d, if_neg t10, if_pos]
      rw [ev, e9]
      exact ⟨nI_le (show 10 ≤ x + 10 by omega) (by omega), nI_le (by omega) (by omega)⟩
    · rw [if_neg d, if_pos rfl, if_neg (fun q => d ?_)]
      rw [e9] at q
      obtain ⟨i, h1, h2, rfl⟩ := in_rng (a := 10) (by omega) q (by omega)
      refine (in_nat (by omega)).mpr ⟨i - 10, by omega, nI_sub (b := 10) h1⟩
theorem sim_sawn : ∀ (SX SM : St) (a1 : Int32), Rel_ SX SM → ∃ (r : Int32) (S1 S2 : St), fX11_sawn SX a1 = some (r, S1) ∧ fX12_sawn SM a1 = some (r, S2) ∧ Rel_ S1 S2 := by
  intro SX SM a1 h
  obtain ⟨hB, hS, hP, hT, hL, hH, hE⟩ := id h
  obtain ⟨W, H, cr, gr, hb, ha, hc⟩ := hB
  obtain ⟨ns, sw, sh, pr, ls, tn, ⟨sb, sx, sm⟩, hk, ho⟩ := hS
  have hW : 1 ≤ W ∧ W ≤ 8 := ⟨hb.1.1, hb.1.2.1⟩
  have hH' : 1 ≤ H ∧ H ≤ 8 := hb.1.2.2
  have hns := sb.1
  have e9 : (9 : Int32) + nI ns = nI (9 + ns) := nI_add 9 ns
  have t10 : ¬ (1 : Int32) = 0 := by decide
  have t00 : (0 : Int32) = 0 := rfl
  unfold fX11_sawn fX12_sawn
  rw [within_e, within_e, (in_e SM a1 0 3 (B := 0) (C := 3) rfl rfl), b1_s, b1_s, b1_s, sx.1, sawn_ok hns sm.1]
  by_cases ok : (0 ≤ a1 ∧ a1 ≤ 3) ∨ (10 ≤ a1 ∧ a1 ≤ 9 + nI ns)
  · have eX : ((if (if 0 ≤ a1 ∧ a1 ≤ 3 then (1 : Int32) else 0) = 0 then (if (if 10 ≤ a1 ∧ a1 ≤ 9 + nI ns then (1 : Int32) else 0) = 0 then some (.inr ((-1 : Int32), SX)) else some (.inl ())) else some (.inl ())) : Option (Unit ⊕ (Int32 × St))) = some (.inl ()) := by
      by_cases c : 0 ≤ a1 ∧ a1 ≤ 3
      · rw [if_pos c, if_neg t10]
      · rw [if_neg c, if_pos t00, if_pos (ok.resolve_left c), if_neg t10]
    have eM : ((if (if 0 ≤ a1 ∧ a1 ≤ 3 then (1 : Int32) else 0) = 0 then (if 10 ≤ a1 ∧ a1 ≤ 9 + nI ns then some (.inl ()) else some (.inr ((-1 : Int32), SM))) else some (.inl ())) : Option (Unit ⊕ (Int32 × St))) = some (.inl ()) := by
      by_cases c : 0 ≤ a1 ∧ a1 ≤ 3
      · rw [if_pos c, if_neg t10]
      · rw [if_neg c, if_pos t00, if_pos (ok.resolve_left c)]
    rw [eX, eM, bs_l, bs_l]
    obtain ⟨S1, e1, f1, x1, tb1⟩ := mostWith1 hb.2.2.1 sx sb hb.2.1 hb.2.2.1.2.2.1 hW hH'
    have mc := mc1 (way := -1) hb.2.2.2.1 hb.2.2.2.2.1 sm hb.m2 (by decide) (vw_alone hb.m1 (by decide))
    obtain ⟨T1, m1, k1, tm1⟩ := mostOf1 (way := -1) mc sb hb.2.1 hW hH'
    have q2 : gI_ T1 0 0 = nI W := by rw [k1.gI (by simp)]; exact hb.2.2.2.1
    have q3 : gI_ T1 0 1 = nI H := by rw [k1.gI (by simp)]; exact hb.2.2.2.2.1
    have ep : fX12_blockAt T1 0 0 (nI W) (nI H) = some (nI (blb (0, 0, W, H))) := blockAt_e T1 (x := 0) (y := 0) hW.1 hH'.1
    have ew : wI_ T1 12 64 0 (nI (blb (0, 0, W, H))) = some (pA_ T1 12 0 (nI (blb (0, 0, W, H)))) := wI_n (i := 0) (by omega) (by omega)
    have f12 : Fr (fun a _ => a == 12) T1 (pA_ T1 12 0 (nI (blb (0, 0, W, H)))) := Fr.pA rfl (Fr.refl _ _)
    let D : Bk → Dc := fun b => ddc (bst (pv1 gr cr ns sw sh pr ls tn)) (fun s => brs gr 1 (fun _ => cr) sw sh pr ls tn s b.x b.y b.w b.h) ns b.x b.y b.w b.h
    have dk : ∀ b, okb W H b → Dok ns b (D b) := fun b hk => ddc_ok rfl hk.1 hk.2.1
    have hm : W * H ≤ 64 := Nat.mul_le_mul hW.2 hH'.2
    have hm1 : 1 ≤ W * H := Nat.mul_pos hW.1 hH'.1
    obtain ⟨r, e2, c2, f2⟩ := tally_x (S := S1) (D := D) (fun S' fr b hk => by
      rw [decide_x (x := b.x) (y := b.y) (w := b.w) (h := b.h) (x0 := 0) (y0 := 0) (w0 := W) (h0 := H) rfl (x1.frT fr) (fun x y w h a b c d e f g => by rw [fr.aI rfl]; exact tb1 x y w h a b c d e f g) sb hb.2.1 (by omega) hW.2 hH'.2 (by omega) (by omega) hk.1 hk.2.1 (by omega) (by have := hk.2.2.1; omega) (by omega) (by have := hk.2.2.2; omega)]
      exact congrArg some (dd_dc _ _ _ _ _ _ _)) dk hW hH' hns (by rw [f1.gI rfl]; exact hb.2.2.1.1) (by rw [f1.gI rfl]; exact hb.2.2.1.2.1)
    obtain ⟨u, e3, ⟨u1, u2, u3, u4⟩, f3⟩ := tl_m (S := pA_ T1 12 0 (nI (blb (0, 0, W, H)))) (D := D) (v1 := a1) (L := [(0, 0, W, H)]) (t := (0, 0, 0, fun _ => 0)) (q0 := 0) (fun S' fr b hk => by
      have fr' := (k1.mono (q := pBst) (by intro a b z; simp [pBst] at z ⊢; omega)).trans ((f12.trans fr).mono (by intro a b z; simp [pBst] at z ⊢; omega))
      rw [deed_m (x := b.x) (y := b.y) (w := b.w) (h := b.h) rfl (mc.fr fr') (fun x y w h a b c d e => by rw [(f12.trans fr).aI rfl]; exact tm1 x y w h a b c d e) sb hb.2.1 hW.2 hH'.2 hk.1 hk.2.1 hk.2.2.1 hk.2.2.2]
      exact congrArg some (dd_dc _ _ _ _ _ _ _)) dk hW.2 hH'.2 hns ⟨⟨hW.1, hH'.1, by simp [Bk.x, Bk.w], by simp [Bk.y, Bk.h]⟩, trivial⟩ (by simp only [arl, Bk.w, Bk.h]; omega) (by simp only [mul_, Bk.w, Bk.h]; omega) ⟨by simp [gI_pI, gI_pL, gI_pA, gI_pB, gI_pR, gI_pW, gL_pI, gL_pL, gL_pA, gL_pB, gL_pR, gL_pW, aI_pI, aI_pL, aI_pA, aI_pB, aI_pR, aI_pW, aL_pI, aL_pL, aL_pA, aL_pB, aL_pR, aL_pW, gR_pI, gR_pL, gR_pA, gR_pB, gR_pR, gR_pW], trivial⟩ (fun _ _ _ => rfl)
    have e3' : lp (fun w26 : Int32 × Int32 × Int32 × Int32 × Int32 × St => bX12_sawn_70 a1 w26.1 w26.2.1 w26.2.2.1 w26.2.2.2.1 w26.2.2.2.2.1 w26.2.2.2.2.2) 5000 (0, 0, 0, 0, 1, pA_ T1 12 0 (nI (blb (0, 0, W, H)))) = some u := e3
    have FX : Fr scX SX r := (f1.mono pSa_sc).trans (f2.mono (by intro a b z; simp [pTal, scX] at z ⊢; omega))
    have FM : Fr scM SM u.2.2.2.2 := (k1.mono p11_sc).trans ((f12.trans f3).mono (by intro a b z; simp [scM] at z ⊢; omega))
    rw [e1, b1_s, e2, b1_s, m1, b1_s, q2, q3, ep, b1_s, ew, b1_s, e3', b1_s]
    rcases ok with c | c
    · have n10 : ¬ (10 ≤ a1 ∧ a1 ≤ 9 + nI ns) := fun q => by
        have h1 := Int32.le_iff_toInt_le.mp q.1
        have h2 := Int32.le_iff_toInt_le.mp c.2
        have h3 : (10 : Int32).toInt = 10 := rfl
        have h4 : (3 : Int32).toInt = 3 := rfl
        omega
      rw [if_neg n10]
      obtain ⟨j, hj1, hj2, rfl⟩ := in_rng (a := 0) (b := 3) (by omega) c (by omega)
      obtain rfl | rfl | rfl | rfl : j = 0 ∨ j = 1 ∨ j = 2 ∨ j = 3 := by omega
      · exact ⟨_, _, _, rfl, rfl, keepScr h (f1.mono pSa_sc) FM⟩
      · exact ⟨nI (tal D 127 [(0, 0, W, H)] (0, 0, 0, fun _ => 0)).p, r, u.2.2.2.2, congrArg (fun v => some (v, r)) c2.1, congrArg (fun v => some (v, u.2.2.2.2)) u1, keepScr h FX FM⟩
      · exact ⟨nI (tal D 127 [(0, 0, W, H)] (0, 0, 0, fun _ => 0)).c, r, u.2.2.2.2, congrArg (fun v => some (v, r)) c2.2.1, congrArg (fun v => some (v, u.2.2.2.2)) u2, keepScr h FX FM⟩
      · exact ⟨nI (tal D 127 [(0, 0, W, H)] (0, 0, 0, fun _ => 0)).w, r, u.2.2.2.2, congrArg (fun v => some (v, r)) c2.2.2.1, congrArg (fun v => some (v, u.2.2.2.2)) u3, keepScr h FX FM⟩
    · rw [if_pos c]
      rw [e9] at c
      obtain ⟨j, hj1, hj2, rfl⟩ := in_rng (a := 10) (by omega) c (by omega)
      have ne : ∀ k, k < 10 → ¬ nI j = nI k := fun k hk q => by
        have := (nI_eq (by omega) (by omega)).mp q
        omega
      have es : nI j - 10 = nI (j - 10) := nI_sub (b := 10) hj1
      have n0 : ¬ nI j = (0 : Int32) := ne 0 (by omega)
      have n1 : ¬ nI j = (1 : Int32) := ne 1 (by omega)
      have n2 : ¬ nI j = (2 : Int32) := ne 2 (by omega)
      have n3 : ¬ nI j = (3 : Int32) := ne 3 (by omega)
      rw [if_neg n0, if_neg t10, es, rI_n (by omega) (by omega), b1_s, if_neg n0, if_neg n1, if_neg n2, if_neg n3, c2.2.2.2 (j - 10) (by omega), u4 (j - 10) (by omega) es]
      exact ⟨_, _, _, rfl, rfl, keepScr h FX FM⟩
  · have c1 : ¬ (0 ≤ a1 ∧ a1 ≤ 3) := fun q => ok (Or.inl q)
    have c2 : ¬ (10 ≤ a1 ∧ a1 ≤ 9 + nI ns) := fun q => ok (Or.inr q)
    exact ⟨-1, SX, SM, by rw [if_neg c1, if_pos t00, if_neg c2, if_pos t00]; rfl, by rw [if_neg c1, if_pos t00, if_neg c2]; rfl, h⟩
