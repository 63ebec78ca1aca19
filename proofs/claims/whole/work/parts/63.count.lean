/-! count -/
theorem lotsOff_x {S : St} {n L D : Nat} {lim : Int32} {lo gd st nm : Nat → Nat} {ag : Nat → Bool} {dr : Nat → Int32} (hp : Pip S 49 6 50 n lo gd st nm ag dr) (hb : PiB n lo gd st nm dr) (hl : HL S L D) (h5 : gI_ S L 5 = lim) : fX11_lotsOff S = some (nI (fb_ct (fun l => offb (lc lo n l) (ld lo dr n l) lim) 6)) := by
  unfold fX11_lotsOff
  rw [lp_seq' (m := 5000) (s := ((0 : Int32), (0 : Int32))) (body := fun w21 : Int32 × Int32 => bX11_lotsOff_4 S w21.1 w21.2) (fun i => (nI (fb_ct (fun l => offb (lc lo n l) (ld lo dr n l) lim) i), nI i)) 6 (r := nI (fb_ct (fun l => offb (lc lo n l) (ld lo dr n l) lim) 6)) rfl (by omega) (fun i hi => by
    have hn' : ¬ 6 ≤ i := by omega
    show bX11_lotsOff_4 S (nI (fb_ct (fun l => offb (lc lo n l) (ld lo dr n l) lim) i)) (nI i) = _
    unfold bX11_lotsOff_4
    simp only [okL_e hl]
    simp (disch := omega) only [li_le1, li_le2, li_lt1, li_lt2, li_eq1, li_eq2, li_add1, li_add2, li_sub1, li_sub2, li_mul1, li_mul2, li_div2, nI_leI, nI_ltI, nI_eq, nI_add, nI_sub, nI_mul, nI_div, rI_n, rL_n, rR_n, wI_n, wL_n, li_rI, li_rL, li_rR, li_wI, li_wL, b1_s, bs_l, bs_r, oI_e, oL_e, oR_e, wZ_0, wZ_1, wZ_b, if_true, if_false, not_true_eq_false, not_false_eq_true, hn', h5, isOff_x hp hb (show i < 2 ^ 31 by omega), zb_0, fb_ct_succ]
    cases offb (lc lo n i) (ld lo dr n i) lim <;> simp) (by
    show bX11_lotsOff_4 S (nI (fb_ct (fun l => offb (lc lo n l) (ld lo dr n l) lim) 6)) (nI 6) = _
    unfold bX11_lotsOff_4
    simp (disch := omega) only [li_le1, li_le2, li_lt1, li_lt2, li_eq1, li_eq2, li_add1, li_add2, li_sub1, li_sub2, li_mul1, li_mul2, li_div2, nI_leI, nI_ltI, nI_eq, nI_add, nI_sub, nI_mul, nI_div, rI_n, rL_n, rR_n, wI_n, wL_n, li_rI, li_rL, li_rR, li_wI, li_wL, b1_s, bs_l, bs_r, oI_e, oL_e, oR_e, wZ_0, wZ_1, wZ_b, if_true, if_false, not_true_eq_false, not_false_eq_true, Nat.le_refl])]
  rfl
theorem lotsOff_m {S : St} {n : Nat} {lim : Int32} {lo gd st nm : Nat → Nat} {ag : Nat → Bool} {dr : Nat → Int32} (hp : Pip S 0 28 22 n lo gd st nm ag dr) (hb : PiB n lo gd st nm dr) (h5 : gI_ S 0 46 = lim) : ∃ S', lp (fun w21 : Int32 × Int32 × St => bX12_count_4 w21.1 w21.2.1 w21.2.2) 5000 (0, 0, S) = some (nI (fb_ct (fun l => offb (lc lo n l) (ld lo dr n l) lim) 6), S') ∧ Fr pLot S S' := by
  obtain ⟨r, e, hr1, hr2⟩ := lp_inv (body := fun w21 : Int32 × Int32 × St => bX12_count_4 w21.1 w21.2.1 w21.2.2) (fun i s => s.1 = nI (fb_ct (fun l => offb (lc lo n l) (ld lo dr n l) lim) i) ∧ s.2.1 = nI i ∧ Fr pLot S s.2.2) (fun r => r.1 = nI (fb_ct (fun l => offb (lc lo n l) (ld lo dr n l) lim) 6) ∧ Fr pLot S r.2) 6 (m := 5000) (s := (0, 0, S)) (by omega) ⟨rfl, rfl, Fr.refl _ _⟩
    (fun i s hi ⟨k1, k3, k4⟩ => by
      have hi2 : i < 2 ^ 31 := by omega
      have hn' : ¬ 6 ≤ i := by omega
      obtain ⟨S2, e0, g1, g2, g3, g4, g5, F⟩ := findLot_m (S := s.2.2) (hp.fr k4 rfl (fun k j z1 z2 => by simp [pLot]; omega)) hb hi2
      have F' : Fr pLot S S2 := k4.trans F
      have e7 : fX12_isOff S2 = some (zb (offb (lc lo n i) (ld lo dr n i) lim)) := isOff_m (S := S2) (lim := lim) g1 g2 (by rw [F'.gI rfl]; exact h5)
      unfold bX12_count_4
      rw [k1, k3]
      simp (disch := omega) only [li_le1, li_le2, li_lt1, li_lt2, li_eq1, li_eq2, li_add1, li_add2, li_sub1, li_sub2, li_mul1, li_mul2, li_div2, nI_leI, nI_ltI, nI_eq, nI_add, nI_sub, nI_mul, nI_div, rI_n, rL_n, rR_n, wI_n, wL_n, li_rI, li_rL, li_rR, li_wI, li_wL, b1_s, bs_l, bs_r, oI_e, oL_e, oR_e, wZ_0, wZ_1, wZ_b, if_true, if_false, not_true_eq_false, not_false_eq_true, hn', e0, e7, zb_0]
      left
      rw [fb_ct_succ]
      cases ho : offb (lc lo n i) (ld lo dr n i) lim with
      | false => exact ⟨_, rfl, by simp, rfl, F'⟩
      | true => exact ⟨_, rfl, by simp, rfl, F'⟩)
    (fun s ⟨k1, k3, k4⟩ => ⟨(s.1, s.2.2), by
      unfold bX12_count_4
      rw [k3]
      simp (disch := omega) only [li_le1, li_le2, li_lt1, li_lt2, li_eq1, li_eq2, li_add1, li_add2, li_sub1, li_sub2, li_mul1, li_mul2, li_div2, nI_leI, nI_ltI, nI_eq, nI_add, nI_sub, nI_mul, nI_div, rI_n, rL_n, rR_n, wI_n, wL_n, li_rI, li_rL, li_rR, li_wI, li_wL, b1_s, bs_l, bs_r, oI_e, oL_e, oR_e, wZ_0, wZ_1, wZ_b, if_true, if_false, not_true_eq_false, not_false_eq_true, Nat.le_refl], k1, k4⟩)
  rw [e]
  refine ⟨r.2, ?_, hr2⟩
  rw [← hr1]
/-- is a pipe sold under another name -/
def oth (le : Nat → Nat) (sc : Nat → Option Nat) (gd nm : Nat → Nat) (p : Nat) : Bool := match sellf (fun i => decide (le i ≤ gd p)) sc 8 (nm p) with
  | none => false
  | some x => decide (x ≠ nm p)
theorem soldOn_x {S : St} {n L D lim many : Nat} {lo gd st nm : Nat → Nat} {ag : Nat → Bool} {dr : Nat → Int32} {fr to ba le : Nat → Nat} {sc : Nat → Option Nat} (hp : Pip S 49 6 50 n lo gd st nm ag dr) (hb : PiB n lo gd st nm dr) (hl : HL S L D) (lb : LwB lim many fr to ba le sc) (lx : Lws S L 5 L 6 (L + 1) lim many fr to ba le sc) : fX11_soldOn S = some (nI (fb_ct (oth le sc gd nm) n)) := by
  have hn := hb.1
  unfold fX11_soldOn
  rw [lp_seq' (m := 5000) (s := ((0 : Int32), (0 : Int32))) (body := fun w21 : Int32 × Int32 => bX11_soldOn_4 S w21.1 w21.2) (fun i => (nI (fb_ct (oth le sc gd nm) i), nI i)) n (r := nI (fb_ct (oth le sc gd nm) n)) rfl (by omega) (fun i hi => by
    have hn' : ¬ n ≤ i := by omega
    obtain ⟨f1, f2, f3, f4, f5, f6⟩ := hp.2 i hi
    obtain ⟨b1, b2, b3, b4, b5, b6⟩ := hb.2 i hi
    have e1 : fX3_seller L S (nI (nm i)) (nI (gd i)) = _ := seller_x lb.2.2.1 lx.le (fun i hi => (lb.2.2.2 i hi).2.2.2) lx.sc b2 (show nm i < 8 by omega)
    have l8 : ∀ x, sellf (fun j => decide (le j ≤ gd i)) sc 8 (nm i) = some x → x < 8 := fun x hx => sell_lt lb.2.2.1 8 (nm i) x (by omega) hx
    show bX11_soldOn_4 S (nI (fb_ct (oth le sc gd nm) i)) (nI i) = _
    unfold bX11_soldOn_4
    rw [hp.1]
    simp only [okL_e hl]
    simp (disch := omega) only [li_le1, li_le2, li_lt1, li_lt2, li_eq1, li_eq2, li_add1, li_add2, li_sub1, li_sub2, li_mul1, li_mul2, li_div2, nI_leI, nI_ltI, nI_eq, nI_add, nI_sub, nI_mul, nI_div, rI_n, rL_n, rR_n, wI_n, wL_n, li_rI, li_rL, li_rR, li_wI, li_wL, b1_s, bs_l, bs_r, oI_e, oL_e, oR_e, wZ_0, wZ_1, wZ_b, if_true, if_false, not_true_eq_false, not_false_eq_true, hn', f6, f2, e1, sv_m4 l8, fb_ct_succ]
    unfold oth
    cases hs : sellf (fun j => decide (le j ≤ gd i)) sc 8 (nm i) with
    | none => simp
    | some x =>
      have := l8 x hs
      simp only [reduceCtorEq, if_false, sv]
      simp (disch := omega) only [li_le1, li_le2, li_lt1, li_lt2, li_eq1, li_eq2, li_add1, li_add2, li_sub1, li_sub2, li_mul1, li_mul2, li_div2, nI_leI, nI_ltI, nI_eq, nI_add, nI_sub, nI_mul, nI_div, rI_n, rL_n, rR_n, wI_n, wL_n, li_rI, li_rL, li_rR, li_wI, li_wL, b1_s, bs_l, bs_r, oI_e, oL_e, oR_e, wZ_0, wZ_1, wZ_b, if_true, if_false, not_true_eq_false, not_false_eq_true]
      by_cases z : x = nm i <;> simp [z]) (by
    show bX11_soldOn_4 S (nI (fb_ct (oth le sc gd nm) n)) (nI n) = _
    unfold bX11_soldOn_4
    rw [hp.1]
    simp (disch := omega) only [li_le1, li_le2, li_lt1, li_lt2, li_eq1, li_eq2, li_add1, li_add2, li_sub1, li_sub2, li_mul1, li_mul2, li_div2, nI_leI, nI_ltI, nI_eq, nI_add, nI_sub, nI_mul, nI_div, rI_n, rL_n, rR_n, wI_n, wL_n, li_rI, li_rL, li_rR, li_wI, li_wL, b1_s, bs_l, bs_r, oI_e, oL_e, oR_e, wZ_0, wZ_1, wZ_b, if_true, if_false, not_true_eq_false, not_false_eq_true, Nat.le_refl])]
  rfl
theorem soldOn_m {u : Int32 × St} {n lim many : Nat} {lo gd st nm : Nat → Nat} {ag : Nat → Bool} {dr : Nat → Int32} {fr to ba le : Nat → Nat} {sc : Nat → Option Nat} (hp : Pip u.2 0 28 22 n lo gd st nm ag dr) (hb : PiB n lo gd st nm dr) (lb : LwB lim many fr to ba le sc) (lm : Lws u.2 0 46 0 49 29 lim many fr to ba le sc) : lp (fun w30 : Int32 × Int32 => bX12_count_41 u w30.1 w30.2) 5000 (0, 0) = some (nI (fb_ct (oth le sc gd nm) n)) := by
  have hn := hb.1
  exact lp_seq' (m := 5000) (s := ((0 : Int32), (0 : Int32))) (body := fun w30 : Int32 × Int32 => bX12_count_41 u w30.1 w30.2) (fun i => (nI (fb_ct (oth le sc gd nm) i), nI i)) n (r := nI (fb_ct (oth le sc gd nm) n)) rfl (by omega) (fun i hi => by
    have hn' : ¬ n ≤ i := by omega
    obtain ⟨f1, f2, f3, f4, f5, f6⟩ := hp.2 i hi
    obtain ⟨b1, b2, b3, b4, b5, b6⟩ := hb.2 i hi
    have e1 : fX12_soldAs u.2 (nI i) = _ := sold_m lb.2.2.1 lm.le (fun i hi => (lb.2.2.2 i hi).2.2.2) lm.sc b2 (show nm i < 8 by omega) (show i < 12 by omega) f2 f6
    have l8 : ∀ x, sellf (fun j => decide (le j ≤ gd i)) sc 8 (nm i) = some x → x < 8 := fun x hx => sell_lt lb.2.2.1 8 (nm i) x (by omega) hx
    show bX12_count_41 u (nI (fb_ct (oth le sc gd nm) i)) (nI i) = _
    unfold bX12_count_41
    rw [hp.1]
    simp (disch := omega) only [li_le1, li_le2, li_lt1, li_lt2, li_eq1, li_eq2, li_add1, li_add2, li_sub1, li_sub2, li_mul1, li_mul2, li_div2, nI_leI, nI_ltI, nI_eq, nI_add, nI_sub, nI_mul, nI_div, rI_n, rL_n, rR_n, wI_n, wL_n, li_rI, li_rL, li_rR, li_wI, li_wL, b1_s, bs_l, bs_r, oI_e, oL_e, oR_e, wZ_0, wZ_1, wZ_b, if_true, if_false, not_true_eq_false, not_false_eq_true, hn', f6, e1, sv_m4 l8, fb_ct_succ]
    unfold oth
    cases hs : sellf (fun j => decide (le j ≤ gd i)) sc 8 (nm i) with
    | none => simp
    | some x =>
      have := l8 x hs
      simp only [reduceCtorEq, if_false, sv]
      simp (disch := omega) only [li_le1, li_le2, li_lt1, li_lt2, li_eq1, li_eq2, li_add1, li_add2, li_sub1, li_sub2, li_mul1, li_mul2, li_div2, nI_leI, nI_ltI, nI_eq, nI_add, nI_sub, nI_mul, nI_div, rI_n, rL_n, rR_n, wI_n, wL_n, li_rI, li_rL, li_rR, li_wI, li_wL, b1_s, bs_l, bs_r, oI_e, oL_e, oR_e, wZ_0, wZ_1, wZ_b, if_true, if_false, not_true_eq_false, not_false_eq_true]
      by_cases z : x = nm i <;> simp [z]) (by
    show bX12_count_41 u (nI (fb_ct (oth le sc gd nm) n)) (nI n) = _
    unfold bX12_count_41
    rw [hp.1]
    simp (disch := omega) only [li_le1, li_le2, li_lt1, li_lt2, li_eq1, li_eq2, li_add1, li_add2, li_sub1, li_sub2, li_mul1, li_mul2, li_div2, nI_leI, nI_ltI, nI_eq, nI_add, nI_sub, nI_mul, nI_div, rI_n, rL_n, rR_n, wI_n, wL_n, li_rI, li_rL, li_rR, li_wI, li_wL, b1_s, bs_l, bs_r, oI_e, oL_e, oR_e, wZ_0, wZ_1, wZ_b, if_true, if_false, not_true_eq_false, not_false_eq_true, Nat.le_refl])
theorem sim_count : ∀ (SX SM : St) (a1 : Int32), Rel_ SX SM → ∃ (r : Int32) (S2 : St), fX11_count SX a1 = some r ∧ fX12_count SM a1 = some (r, S2) ∧ Rel_ SX S2 := by
  intro SX SM a1 h
  obtain ⟨hB, hS, hP, hT, hL, hH, hE⟩ := id h
  obtain ⟨w, v, cr, gr, hb, ⟨na, nx, ac, ag', ha⟩, ⟨nw, dc, hc⟩⟩ := hB
  obtain ⟨ns, sw, sh, pr, ls, tn, ⟨sb, sx, sm⟩, ⟨nk, kw, kh, kg, ka, kb, kx, km⟩, ⟨no, os, oa, op, ob, ox, om⟩⟩ := hS
  obtain ⟨n, lo, gd, st, nm, ag, dr, pb, px, pm⟩ := hP
  obtain ⟨L, D, lim, many, fr, to, ba, le, sc, hl, lb, lx, lm⟩ := hL
  obtain ⟨sz, ln, ce, ⟨u0, ul⟩, u1, u2, u3, u4, u5, u6⟩ := hH 0 (by omega)
  obtain ⟨⟨w1, w2, v1, v2⟩, hg, hx, hm1, hm2, hm⟩ := id hb
  obtain ⟨S2, e1, F⟩ := lotsOff_m pm pb lm.1
  have e2 := soldOn_m (u := (nI (fb_ct (fun l => offb (lc lo n l) (ld lo dr n l) (nI lim)) 6), S2)) (pm.fr F rfl (fun k j z1 z2 => by simp [pLot]; omega)) pb lb (lm.fr F rfl rfl (fun k j z1 z2 => by simp [pLot]; omega))
  have e3 := lotsOff_x px pb hl lx.1
  have e4 := soldOn_x px pb hl lb lx
  have e5 := many_m (S := S2) (cr := cr) (fun q hq => by rw [F.aI rfl]; have := (hm q hq).1; rw [Nat.zero_add] at this; exact this)
  have e6 : fb_ct (lt_ (gL_ SX 1 2)) 64 = fb_ct cr 64 := fb_ct_cong (fun q hq => hx.2.2.1 q hq)
  have K : Rel_ SX S2 := keepLot h F
  unfold fX11_count fX12_count
  rw [e1]
  simp only [b1_s, bs_l, bs_r, oI_e, oL_e, oR_e, e2]
  have r0 : rR_ 4 (fun i => 75 + 2 * i) 0 = some (75 + 2 * 0) := sheetR (k := 0) (by omega)
  simp only [r0, b1_s, bs_l, bs_r, oI_e, oL_e, oR_e, nothing_e (k := 75 + 2 * 0) u1 ul, okL_e hl, e3, e4, e5, pc64_e, e6, zb_0, F.gI (k := 0) (j := 9) rfl, F.gI (k := 0) (j := 28) rfl, F.gI (k := 0) (j := 0) rfl, F.gI (k := 0) (j := 1) rfl, F.gI (k := 0) (j := 4) rfl, F.gI (k := 0) (j := 17) rfl, F.gI (k := 0) (j := 22) rfl, F.gI (k := 0) (j := 6) rfl, F.gI (k := 0) (j := 49) rfl, F.gI (k := 0) (j := 46) rfl]
  by_cases c0 : a1 = 0
  · simp only [c0, if_true]; exact ⟨_, S2, rfl, by rw [sx.1, sm.1], K⟩
  · by_cases c1 : a1 = 1
    · simp only [c0, c1, if_true, if_false]; exact ⟨_, S2, rfl, by rw [px.1, pm.1]; rfl, K⟩
    · by_cases c2 : a1 = 2
      · simp only [c0, c1, c2, if_true, if_false]; exact ⟨_, S2, rfl, rfl, K⟩
      · by_cases c3 : a1 = 3
        · simp only [c0, c1, c2, c3, if_true, if_false]; exact ⟨_, S2, rfl, by rw [hx.1, hx.2.1, hm1, hm2]; rfl, K⟩
        · by_cases c4 : a1 = 4
          · simp only [c0, c1, c2, c3, c4, if_true, if_false]; exact ⟨_, S2, rfl, rfl, K⟩
          · by_cases c5 : a1 = 5
            · have g4 : rI_ S2 39 4 0 = some (sv ln) := (rI_n (i := 0) (by omega) (by omega)).trans (by rw [F.aI rfl, u4])
              have g5 : rI_ S2 40 4 0 = some (nI sz) := (rI_n (i := 0) (by omega) (by omega)).trans (by rw [F.aI rfl, u5])
              simp only [c0, c1, c2, c3, c4, c5, if_true, if_false, g4, g5, b1_s, bs_l, bs_r, oI_e, oL_e, oR_e, sv_m4' ul]
              cases ln with
              | none => exact ⟨-4, S2, rfl, rfl, K⟩
              | some l => exact ⟨nI sz, S2, by simp only [Option.isNone_some, if_true]; rw [u2]; rfl, by simp, K⟩
            · by_cases c6 : a1 = 6
              · simp only [c0, c1, c2, c3, c4, c5, c6, if_true, if_false]; exact ⟨_, S2, rfl, by rw [hc.2.1, hc.2.2.1]; rfl, K⟩
              · by_cases c7 : a1 = 7
                · simp only [c0, c1, c2, c3, c4, c5, c6, c7, if_true, if_false]; exact ⟨_, S2, rfl, by rw [kx.1, km.1]; rfl, K⟩
                · by_cases c8 : a1 = 8
                  · simp only [c0, c1, c2, c3, c4, c5, c6, c7, c8, if_true, if_false]; exact ⟨_, S2, rfl, by rw [ox.1, om.1]; rfl, K⟩
                  · by_cases c9 : a1 = 9
                    · simp only [c0, c1, c2, c3, c4, c5, c6, c7, c8, c9, if_true, if_false]; exact ⟨_, S2, rfl, by rw [ha.2.2.1, ha.2.2.2.1]; rfl, K⟩
                    · by_cases c10 : a1 = 10
                      · simp only [c0, c1, c2, c3, c4, c5, c6, c7, c8, c9, c10, if_true, if_false]; exact ⟨_, S2, rfl, by rw [lx.2.1, lm.2.1]; rfl, K⟩
                      · by_cases c11 : a1 = 11
                        · simp only [c0, c1, c2, c3, c4, c5, c6, c7, c8, c9, c10, c11, if_true, if_false]; exact ⟨_, S2, rfl, by rw [lx.1, lm.1]; rfl, K⟩
                        · by_cases c12 : a1 = 12
                          · simp only [c0, c1, c2, c3, c4, c5, c6, c7, c8, c9, c10, c11, c12, if_true, if_false]; exact ⟨_, S2, rfl, rfl, K⟩
                          · simp only [c0, c1, c2, c3, c4, c5, c6, c7, c8, c9, c10, c11, c12, if_false]; exact ⟨_, S2, rfl, rfl, K⟩
