/-! the reference's table of what blocks bring -/
section FILLS
variable {gr : Nat → Nat} {vc : Nat} {vw : Nat → Nat → Bool} {n : Nat} {sw sh pr ls : Nat → Nat} {tn : Nat → Bool} {W H : Nat} {way : Int32}
def pBst (a _b : Nat) : Bool := a == 11 || a == 12
theorem VwM.fr {S S' : St} {v : Int32} {u : Nat → Bool} (h : VwM S v u) (hf : Fr pBst S S') : VwM S' v u := by
  obtain ⟨cr, h1, h2⟩ := h
  refine ⟨cr, fun q hq => by rw [hf.aI rfl]; exact h1 q hq, ?_⟩
  rcases h2 with z | ⟨k, d, a, b, c, e⟩
  · exact Or.inl z
  · exact Or.inr ⟨k, d, a, b, fun q hq => by rw [hf.aI rfl]; exact c q hq, e⟩
def MC (way : Int32) (gr : Nat → Nat) (vc : Nat) (vw : Nat → Nat → Bool) (n : Nat) (sw sh pr ls : Nat → Nat) (tn : Nat → Bool) (W H : Nat) (S : St) : Prop :=
  gI_ S 0 0 = nI W ∧ gI_ S 0 1 = nI H ∧ Shp S 0 9 6 n sw sh pr ls tn ∧ (∀ q, q < 64 → aI_ S 2 q = nI (gr q)) ∧ ((way ≠ -2 ∧ vc = 1 ∧ VwM S way (vw 0)) ∨ (way = -2 ∧ vc ≤ 4 ∧ gI_ S 0 4 = nI vc ∧ ∀ k, k < vc → VwM S (nI k) (vw k)))
theorem MC.fr {S S' : St} (h : MC way gr vc vw n sw sh pr ls tn W H S) (hf : Fr pBst S S') : MC way gr vc vw n sw sh pr ls tn W H S' := by
  obtain ⟨a, b, c, d, e⟩ := h
  refine ⟨(hf.gI rfl).trans a, (hf.gI rfl).trans b, c.fr hf rfl (fun k j z1 z2 => by simp [pBst]; omega), fun q hq => (hf.aI rfl).trans (d q hq), ?_⟩
  rcases e with ⟨e1, e2, e3⟩ | ⟨e1, e2, e3, e4⟩
  · exact Or.inl ⟨e1, e2, e3.fr hf⟩
  · exact Or.inr ⟨e1, e2, (hf.gI rfl).trans e3, fun k hk => (e4 k hk).fr hf⟩
theorem ct_lim (p : Nat → Bool) {m : Nat} (hm : m ≤ 4) : fb_ct (fun v => decide (v < m) && p v) 4 = fb_ct p m := by
  have e : fb_ct (fun v => decide (v < m) && p v) 4 = fb_ct (fun v => decide (v < m) && p v) (m + (4 - m)) := by rw [show m + (4 - m) = 4 by omega]
  rw [e, fb_ct_split]
  have e1 : fb_ct (fun v => decide (v < m) && p v) m = fb_ct p m := fb_ct_cong (fun k hk => by simp [hk])
  have e2 : fb_ct (fun k => decide (m + k < m) && p (m + k)) (4 - m) = 0 := fb_ct_zero.mpr (fun k _ => by rw [show decide (m + k < m) = false from decide_eq_false (by omega)]; rfl)
  rw [e1, e2, Nat.add_zero]
theorem brings_m {S : St} {x y w h s : Nat} (hc : MC way gr vc vw n sw sh pr ls tn W H S) (sb : ShB n sw sh pr ls) (hb : GrB gr) (hW : W ≤ 8) (hH : H ≤ 8) (hx : x + w ≤ W) (hy : y + h ≤ H) (hs : s < n) : ∃ r, fX12_bringsOf S (nI x) (nI y) (nI w) (nI h) (nI s) way = some r ∧ (r = nI (brs gr vc vw sw sh pr ls tn s x y w h) ∨ (r = -4 ∧ brs gr vc vw sw sh pr ls tn s x y w h = 0)) := by
  have hn := sb.1
  obtain ⟨c0, c1, c2, c3, c4⟩ := hc
  obtain ⟨b1, b2, b3, b4⟩ := sb.2 s hs
  obtain ⟨g1, g2, g3, g4, g5⟩ := c2.2 s hs
  unfold fX12_bringsOf
  rw [isOf_m c2 sb hs (show w < 2 ^ 31 by omega) (show h < 2 ^ 31 by omega), b1_s]
  cases ho : ofSz sw sh tn s w h with
  | false => exact ⟨-4, rfl, Or.inr ⟨rfl, by unfold brs; rw [ho]; rfl⟩⟩
  | true =>
    rw [if_neg (show ¬ zb true = 0 by decide)]
    rcases c4 with ⟨e1, e2, e3⟩ | ⟨e1, e2, e3, e4⟩
    · rw [if_neg e1, fit_m (v := way) c2 sb c3 hb e3 hs (by omega) (by omega), ho, b1_s, Bool.true_and]
      have cnt : fb_ct (fun v => decide (v < vc) && allB (fun q => !vw v q) x y w h) 4 = if allB (fun q => !vw 0 q) x y w h then 1 else 0 := by
        rw [e2, ct_lim _ (by omega)]
        show 0 + (if allB (fun q => !vw 0 q) x y w h then 1 else 0) = _
        rw [Nat.zero_add]
      cases hl : allB (fun q => decide (ls s ≤ gr q)) x y w h with
      | false => exact ⟨-4, rfl, Or.inr ⟨rfl, by unfold brs; rw [ho, hl]; rfl⟩⟩
      | true =>
        cases hv : allB (fun q => !vw 0 q) x y w h with
        | false => exact ⟨-4, rfl, Or.inr ⟨rfl, by unfold brs; rw [ho, hl, cnt, hv]; rfl⟩⟩
        | true =>
          rw [if_neg (show ¬ zb (true && true) = 0 by decide), rI_n (by omega) (by omega), b1_s, g3]
          refine ⟨_, rfl, Or.inl ?_⟩
          unfold brs
          rw [ho, hl, cnt, hv]
          simp
    · rw [if_pos e1]
      have step : ∀ i, i < vc → bX12_bringsOf_57 S (nI x) (nI y) (nI w) (nI h) (nI s) (nI (if allB (fun q => decide (ls s ≤ gr q)) x y w h then pr s * fb_ct (fun v => allB (fun q => !vw v q) x y w h) i else 0)) (nI i) = some (.inl (nI (if allB (fun q => decide (ls s ≤ gr q)) x y w h then pr s * fb_ct (fun v => allB (fun q => !vw v q) x y w h) (i + 1) else 0), nI (i + 1))) := fun i hi => by
        unfold bX12_bringsOf_57
        rw [e3, if_neg (nI_ge hi (by omega)), fit_m (v := nI i) c2 sb c3 hb (e4 i hi) hs (by omega) (by omega), ho, b1_s, Bool.true_and, fb_ct_succ]
        cases hl : allB (fun q => decide (ls s ≤ gr q)) x y w h with
        | false =>
          rw [if_pos (show zb (false && allB (fun q => !vw i q) x y w h) = 0 from rfl), nI_1]
          rfl
        | true =>
          cases hv : allB (fun q => !vw i q) x y w h with
          | false =>
            rw [if_pos (show zb (true && false) = 0 from rfl), nI_1]
            have : ∀ z : Nat, nI z + 0 = nI z := fun z => nI_add z 0
            simp only [if_true, Bool.false_eq_true, if_false, Nat.add_zero, this]
          | true =>
            rw [if_neg (show ¬ zb (true && true) = 0 by decide), rI_n (by omega) (by omega), b1_s, g3, nI_1]
            simp only [if_true, nI_add]
            rw [Nat.mul_add, Nat.mul_one]
      have e := lp_seq' (m := 5000) (s := ((0 : Int32), (0 : Int32))) (body := fun w22 : Int32 × Int32 => bX12_bringsOf_57 S (nI x) (nI y) (nI w) (nI h) (nI s) w22.1 w22.2) (fun i => (nI (if allB (fun q => decide (ls s ≤ gr q)) x y w h then pr s * fb_ct (fun v => allB (fun q => !vw v q) x y w h) i else 0), nI i)) vc (r := nI (if allB (fun q => decide (ls s ≤ gr q)) x y w h then pr s * fb_ct (fun v => allB (fun q => !vw v q) x y w h) vc else 0)) (by
          have : (if allB (fun q => decide (ls s ≤ gr q)) x y w h then pr s * fb_ct (fun v => allB (fun q => !vw v q) x y w h) 0 else 0) = 0 := by
            split
            · show pr s * 0 = 0; omega
            · rfl
          rw [this]; rfl) (by omega) step (by
          show bX12_bringsOf_57 S (nI x) (nI y) (nI w) (nI h) (nI s) (nI (if allB (fun q => decide (ls s ≤ gr q)) x y w h then pr s * fb_ct (fun v => allB (fun q => !vw v q) x y w h) vc else 0)) (nI vc) = _
          unfold bX12_bringsOf_57
          rw [e3, if_pos (nI_le (Nat.le_refl _) (by omega))])
      rw [e, b1_s]
      refine ⟨_, rfl, Or.inl ?_⟩
      unfold brs
      rw [ho, Bool.true_and, ct_lim _ e2]
/-- the reference's place of a block -/
def bl (x y w h : Nat) : Nat := 512 * (h - 1) + 64 * (w - 1) + (8 * y + x)
theorem blockAt_e (S : St) {x y w h : Nat} (hw : 1 ≤ w) (hh : 1 ≤ h) : fX12_blockAt S (nI x) (nI y) (nI w) (nI h) = some (nI (bl x y w h)) := by
  unfold fX12_blockAt
  have a1 : nI h - 1 = nI (h - 1) := nI_sub (b := 1) hh
  have a2 : nI w - 1 = nI (w - 1) := nI_sub (b := 1) hw
  have a3 : 512 * nI (h - 1) = nI (512 * (h - 1)) := nI_mul 512 _
  have a4 : 64 * nI (w - 1) = nI (64 * (w - 1)) := nI_mul 64 _
  have a5 : 8 * nI y = nI (8 * y) := nI_mul 8 _
  rw [a1, a2, a3, a4, a5, nI_add, nI_add, nI_add]
  exact congrArg some (congrArg nI (by unfold bl; omega))
theorem bl_inj {x y w h x' y' w' h' : Nat} (hx : x < 8) (hy : y < 8) (hw : 1 ≤ w) (hh : 1 ≤ h) (hw8 : w ≤ 8) (hx' : x' < 8) (hy' : y' < 8) (hw' : 1 ≤ w') (hh' : 1 ≤ h') (hw8' : w' ≤ 8) (e : bl x y w h = bl x' y' w' h') : x = x' ∧ y = y' ∧ w = w' ∧ h = h' := by
  unfold bl at e
  have a1 : x = x' := by omega
  have a2 : y = y' := by omega
  have a3 : h = h' := by omega
  have a4 : w = w' := by omega
  exact ⟨a1, a2, a4, a3⟩
theorem bl_lt {x y w h : Nat} (hx : x < 8) (hy : y < 8) (hw : 1 ≤ w) (hh : 1 ≤ h) (hw8 : w ≤ 8) (hh8 : h ≤ 8) : bl x y w h < 4096 := by unfold bl; omega
def Dm (hi wd yy xx x y w h : Nat) : Prop := h < hi ∨ (h = hi ∧ (w < wd ∨ (w = wd ∧ (y < yy ∨ (y = yy ∧ x < xx)))))
def TbM (pv : Nat → Nat → Nat → Nat → Nat) (W H : Nat) (S : St) (Q : Nat → Nat → Nat → Nat → Prop) : Prop := ∀ x y w h, 1 ≤ w → 1 ≤ h → x + w ≤ W → y + h ≤ H → Q x y w h → aI_ S 11 (bl x y w h) = nI (bst pv x y w h)
theorem pipe_m {S : St} {x y w h : Nat} (hc : MC way gr vc vw n sw sh pr ls tn W H S) (sb : ShB n sw sh pr ls) (hb : GrB gr) (hW : W ≤ 8) (hH : H ≤ 8) (hx : x + w ≤ W) (hy : y + h ≤ H) : lp (fun w33 : Int32 × Int32 => bX12_fills_54 way (nI h) (nI w) (nI y) (nI x) S w33.1 w33.2) 5000 (0, 0) = some (nI (pvl gr vc vw n sw sh pr ls tn x y w h)) := by
  have hn := sb.1
  unfold pvl
  exact lp_seq' (m := 5000) (s := ((0 : Int32), (0 : Int32))) (body := fun w33 : Int32 × Int32 => bX12_fills_54 way (nI h) (nI w) (nI y) (nI x) S w33.1 w33.2) (fun i => (nI (mx0 (fun s => brs gr vc vw sw sh pr ls tn s x y w h) i), nI i)) n rfl (by omega) (fun i hi => by
    have l1 : mx0 (fun s => brs gr vc vw sw sh pr ls tn s x y w h) i ≤ 2000 := mx0_le (fun s hs' => brs_le sb (by omega))
    have l2 : brs gr vc vw sw sh pr ls tn i x y w h ≤ 2000 := brs_le sb hi
    obtain ⟨r, e, hr⟩ := brings_m (s := i) hc sb hb hW hH hx hy hi
    show bX12_fills_54 way (nI h) (nI w) (nI y) (nI x) S (nI (mx0 (fun s => brs gr vc vw sw sh pr ls tn s x y w h) i)) (nI i) = _
    unfold bX12_fills_54
    rw [hc.2.2.1.1, if_neg (nI_ge hi (by omega)), e, b1_s, nI_1, mx0]
    rcases hr with rfl | ⟨rfl, z⟩
    · by_cases c : brs gr vc vw sw sh pr ls tn i x y w h ≤ mx0 (fun s => brs gr vc vw sw sh pr ls tn s x y w h) i
      · rw [if_pos (nI_le c (by omega)), Nat.max_eq_left c]
      · rw [if_neg (nI_ge (by omega) (by omega)), Nat.max_eq_right (by omega)]
    · rw [z, Nat.max_zero, if_pos]
      rw [fa_le, nI_toInt (by omega)]
      have : (-4 : Int32).toInt = -4 := by decide
      omega) (by
    show bX12_fills_54 way (nI h) (nI w) (nI y) (nI x) S (nI (mx0 (fun s => brs gr vc vw sw sh pr ls tn s x y w h) n)) (nI n) = _
    unfold bX12_fills_54
    rw [hc.2.2.1.1, if_pos (nI_le (Nat.le_refl _) (by omega))])
theorem down_m {S : St} {x y w h a : Nat} {f : Nat → Nat → Nat → Nat → Nat} (hw : 1 ≤ w) (hx : x + w ≤ 8) (hh : 1 ≤ h) (hy : y + h ≤ 8) (ha : a ≤ 256000) (hT : ∀ k, 1 ≤ k → k < w → aI_ S 11 (bl x y k h) = nI (f x y k h) ∧ aI_ S 11 (bl (x + k) y (w - k) h) = nI (f (x + k) y (w - k) h)) (hf : ∀ k, 1 ≤ k → k < w → f x y k h ≤ 128000 ∧ f (x + k) y (w - k) h ≤ 128000) : lp (fun w40 : Int32 × Int32 => bX12_fills_103 (nI h) (nI w) (nI y) (nI x) S w40.1 w40.2) 5000 (nI a, 1) = some (nI (max a (mx1 (fun k => f x y k h + f (x + k) y (w - k) h) w))) := by
  have e := lp_seq' (m := 5000) (s := (nI a, (1 : Int32))) (body := fun w40 : Int32 × Int32 => bX12_fills_103 (nI h) (nI w) (nI y) (nI x) S w40.1 w40.2) (fun i => (nI (max a (mx1 (fun k => f x y k h + f (x + k) y (w - k) h) (i + 1))), nI (i + 1))) (w - 1) (r := nI (max a (mx1 (fun k => f x y k h + f (x + k) y (w - k) h) (w - 1 + 1)))) (by rw [mx1_1, Nat.max_zero]; rfl) (by omega) (fun i hi => by
    obtain ⟨t1, t2⟩ := hT (i + 1) (by omega) (by omega)
    obtain ⟨u1, u2⟩ := hf (i + 1) (by omega) (by omega)
    have l1 : mx1 (fun k => f x y k h + f (x + k) y (w - k) h) (i + 1) ≤ 256000 := mx1_le (fun k q1 q2 => by have := hf k q1 (by omega); show f x y k h + f (x + k) y (w - k) h ≤ 256000; omega)
    show bX12_fills_103 (nI h) (nI w) (nI y) (nI x) S (nI (max a (mx1 (fun k => f x y k h + f (x + k) y (w - k) h) (i + 1)))) (nI (i + 1)) = _
    unfold bX12_fills_103
    rw [if_neg (nI_ge (by omega) (by omega)), nI_add, nI_sub (show i + 1 ≤ w by omega), blockAt_e S (by omega) hh, b1_s, rI_n (bl_lt (by omega) (by omega) (by omega) hh (by omega) (by omega)) (by omega), b1_s, blockAt_e S (by omega) hh, b1_s, rI_n (bl_lt (by omega) (by omega) (by omega) hh (by omega) (by omega)) (by omega), b1_s, t1, t2, nI_add, mx1_s _ (show 1 ≤ i + 1 by omega), nI_1]
    generalize mx1 (fun k => f x y k h + f (x + k) y (w - k) h) (i + 1) = M at *
    by_cases c : f x y (i + 1) h + f (x + (i + 1)) y (w - (i + 1)) h ≤ max a M
    · rw [if_pos (nI_le c (by omega))]
      exact congrArg (fun z => some (Sum.inl (nI z, nI (i + 1 + 1)))) (by omega)
    · rw [if_neg (nI_ge (by omega) (by omega))]
      exact congrArg (fun z => some (Sum.inl (nI z, nI (i + 1 + 1)))) (by omega)) (by
    show bX12_fills_103 (nI h) (nI w) (nI y) (nI x) S (nI (max a (mx1 (fun k => f x y k h + f (x + k) y (w - k) h) (w - 1 + 1)))) (nI (w - 1 + 1)) = _
    unfold bX12_fills_103
    rw [if_pos (nI_le (by omega) (by omega))])
  rw [e, show w - 1 + 1 = w by omega]
theorem across_m {S : St} {x y w h a : Nat} {f : Nat → Nat → Nat → Nat → Nat} (hw : 1 ≤ w) (hx : x + w ≤ 8) (hh : 1 ≤ h) (hy : y + h ≤ 8) (ha : a ≤ 256000) (hT : ∀ k, 1 ≤ k → k < h → aI_ S 11 (bl x y w k) = nI (f x y w k) ∧ aI_ S 11 (bl x (y + k) w (h - k)) = nI (f x (y + k) w (h - k))) (hf : ∀ k, 1 ≤ k → k < h → f x y w k ≤ 128000 ∧ f x (y + k) w (h - k) ≤ 128000) : lp (fun w50 : Int32 × Int32 => bX12_fills_172 (nI h) (nI w) (nI y) (nI x) S w50.1 w50.2) 5000 (nI a, 1) = some (nI (max a (mx1 (fun k => f x y w k + f x (y + k) w (h - k)) h))) := by
  have e := lp_seq' (m := 5000) (s := (nI a, (1 : Int32))) (body := fun w50 : Int32 × Int32 => bX12_fills_172 (nI h) (nI w) (nI y) (nI x) S w50.1 w50.2) (fun i => (nI (max a (mx1 (fun k => f x y w k + f x (y + k) w (h - k)) (i + 1))), nI (i + 1))) (h - 1) (r := nI (max a (mx1 (fun k => f x y w k + f x (y + k) w (h - k)) (h - 1 + 1)))) (by rw [mx1_1, Nat.max_zero]; rfl) (by omega) (fun i hi => by
    obtain ⟨t1, t2⟩ := hT (i + 1) (by omega) (by omega)
    obtain ⟨u1, u2⟩ := hf (i + 1) (by omega) (by omega)
    have l1 : mx1 (fun k => f x y w k + f x (y + k) w (h - k)) (i + 1) ≤ 256000 := mx1_le (fun k q1 q2 => by have := hf k q1 (by omega); show f x y w k + f x (y + k) w (h - k) ≤ 256000; omega)
    show bX12_fills_172 (nI h) (nI w) (nI y) (nI x) S (nI (max a (mx1 (fun k => f x y w k + f x (y + k) w (h - k)) (i + 1)))) (nI (i + 1)) = _
    unfold bX12_fills_172
    rw [if_neg (nI_ge (by omega) (by omega)), nI_add, nI_sub (show i + 1 ≤ h by omega), blockAt_e S hw (by omega), b1_s, rI_n (bl_lt (by omega) (by omega) hw (by omega) (by omega) (by omega)) (by omega), b1_s, blockAt_e S hw (by omega), b1_s, rI_n (bl_lt (by omega) (by omega) hw (by omega) (by omega) (by omega)) (by omega), b1_s, t1, t2, nI_add, mx1_s _ (show 1 ≤ i + 1 by omega), nI_1]
    generalize mx1 (fun k => f x y w k + f x (y + k) w (h - k)) (i + 1) = M at *
    by_cases c : f x y w (i + 1) + f x (y + (i + 1)) w (h - (i + 1)) ≤ max a M
    · rw [if_pos (nI_le c (by omega))]
      exact congrArg (fun z => some (Sum.inl (nI z, nI (i + 1 + 1)))) (by omega)
    · rw [if_neg (nI_ge (by omega) (by omega))]
      exact congrArg (fun z => some (Sum.inl (nI z, nI (i + 1 + 1)))) (by omega)) (by
    show bX12_fills_172 (nI h) (nI w) (nI y) (nI x) S (nI (max a (mx1 (fun k => f x y w k + f x (y + k) w (h - k)) (h - 1 + 1)))) (nI (h - 1 + 1)) = _
    unfold bX12_fills_172
    rw [if_pos (nI_le (by omega) (by omega))])
  rw [e, show h - 1 + 1 = h by omega]
theorem cell_m {S : St} {x y w h : Nat} {pv : Nat → Nat → Nat → Nat → Nat} (hpv : pv = pvl gr vc vw n sw sh pr ls tn) (hc : MC way gr vc vw n sw sh pr ls tn W H S) (sb : ShB n sw sh pr ls) (hb : GrB gr) (hW : W ≤ 8) (hH : H ≤ 8) (hw : 1 ≤ w) (hh : 1 ≤ h) (hx : x + w ≤ W) (hy : y + h ≤ H) (hT : TbM pv W H S (Dm h w y x)) : bX12_fills_37 way (nI h) (nI w) (nI y) (nI x) S = some (.inl (nI (x + 1), pA_ S 11 (bl x y w h) (nI (bst pv x y w h)))) := by
  have bl' : ∀ x y w h, 1 ≤ w → 1 ≤ h → w ≤ 8 → h ≤ 8 → bst pv x y w h ≤ 128000 := fun x y w h a b c d => by rw [hpv]; exact bstp_le sb a b c d
  have l1 : pv x y w h ≤ 2000 := by rw [hpv]; exact pvl_le sb
  have ev := bst_eq pv (x := x) (y := y) (w := w) (h := h) hw hh
  have lv := bl' x y w h hw hh (by omega) (by omega)
  have eD := down_m (S := S) (x := x) (y := y) (w := w) (h := h) (a := pv x y w h) (f := bst pv) hw (by omega) hh (by omega) (by omega) (fun k a b => ⟨hT _ _ _ _ a hh (by omega) hy (Or.inr ⟨rfl, Or.inl b⟩), hT _ _ _ _ (by omega) hh (by omega) hy (Or.inr ⟨rfl, Or.inl (by omega)⟩)⟩) (fun k a b => ⟨bl' _ _ _ _ a hh (by omega) (by omega), bl' _ _ _ _ (by omega) hh (by omega) (by omega)⟩)
  have eA := across_m (S := S) (x := x) (y := y) (w := w) (h := h) (a := max (pv x y w h) (mx1 (fun k => bst pv x y k h + bst pv (x + k) y (w - k) h) w)) (f := bst pv) hw (by omega) hh (by omega) (by omega) (fun k a b => ⟨hT _ _ _ _ hw a hx (by omega) (Or.inl b), hT _ _ _ _ hw (by omega) hx (by omega) (Or.inl (by omega))⟩) (fun k a b => ⟨bl' _ _ _ _ hw a (by omega) (by omega), bl' _ _ _ _ hw (by omega) (by omega) (by omega)⟩)
  have eP := pipe_m (x := x) (y := y) (w := w) (h := h) hc sb hb hW hH hx hy
  rw [← hpv] at eP
  unfold bX12_fills_37
  rw [hc.1, nI_add, if_neg (nI_nlt (by omega) (by omega)), eP, b1_s, eD, b1_s, eA, b1_s, blockAt_e S hw hh, b1_s, wI_n (bl_lt (by omega) (by omega) hw hh (by omega) (by omega)) (by omega), b1_s, nI_1, ev, Nat.max_assoc]
theorem fills_m {S : St} {pv : Nat → Nat → Nat → Nat → Nat} (hpv : pv = pvl gr vc vw n sw sh pr ls tn) (hc : MC way gr vc vw n sw sh pr ls tn W H S) (sb : ShB n sw sh pr ls) (hb : GrB gr) (hW : 1 ≤ W ∧ W ≤ 8) (hH : 1 ≤ H ∧ H ≤ 8) : ∃ S', fX12_fills S way = some S' ∧ Fr (fun a _ => a == 11) S S' ∧ TbM pv W H S' (fun _ _ _ _ => True) := by
  unfold fX12_fills
  have mono : ∀ {S1 : St}, Fr (fun a _ => a == 11) S S1 → MC way gr vc vw n sw sh pr ls tn W H S1 := fun f => hc.fr (f.mono (by intro a b z; simp [pBst] at z ⊢; omega))
  have L4 : ∀ (h w y : Nat) (S1 : St), 1 ≤ h → 1 ≤ w → w ≤ W → y + h ≤ H → Fr (fun a _ => a == 11) S S1 → TbM pv W H S1 (Dm h w y 0) → ∃ S2, lp (fun w30 : Int32 × St => bX12_fills_37 way (nI h) (nI w) (nI y) w30.1 w30.2) 5000 (0, S1) = some S2 ∧ Fr (fun a _ => a == 11) S S2 ∧ TbM pv W H S2 (Dm h w (y + 1) 0) := fun h w y S1 hh hw hwW hy f0 t0 => by
    refine lp_inv (body := fun w30 : Int32 × St => bX12_fills_37 way (nI h) (nI w) (nI y) w30.1 w30.2) (fun x s => s.1 = nI x ∧ Fr (fun a _ => a == 11) S s.2 ∧ TbM pv W H s.2 (Dm h w y x)) (fun r => Fr (fun a _ => a == 11) S r ∧ TbM pv W H r (Dm h w (y + 1) 0)) (W + 1 - w) (m := 5000) (s := (0, S1)) (by omega) ⟨rfl, f0, t0⟩ (fun x s hx ⟨k1, k2, k3⟩ => ?_) (fun s ⟨k1, k2, k3⟩ => ?_)
    · have e := cell_m (S := s.2) (x := x) (y := y) hpv (mono k2) sb hb hW.2 hH.2 hw hh (by omega) hy k3
      left
      refine ⟨(nI (x + 1), pA_ s.2 11 (bl x y w h) (nI (bst pv x y w h))), by rw [k1]; exact e, rfl, k2.pA (by simp), fun x' y' w' h' a1 a2 a3 a4 hd => ?_⟩
      simp only [gI_pI, gI_pL, gI_pA, gI_pB, gI_pR, gI_pW, gL_pI, gL_pL, gL_pA, gL_pB, gL_pR, gL_pW, aI_pI, aI_pL, aI_pA, aI_pB, aI_pR, aI_pW, aL_pI, aL_pL, aL_pA, aL_pB, aL_pR, aL_pW, gR_pI, gR_pL, gR_pA, gR_pB, gR_pR, gR_pW, true_and]
      by_cases z : x' = x ∧ y' = y ∧ w' = w ∧ h' = h
      · obtain ⟨rfl, rfl, rfl, rfl⟩ := z
        rw [if_pos rfl]
      · have ne : bl x' y' w' h' ≠ bl x y w h := fun q => z (bl_inj (by omega) (by omega) a1 a2 (by omega) (by omega) (by omega) hw hh (by omega) q)
        rw [if_neg ne]
        refine k3 x' y' w' h' a1 a2 a3 a4 ?_
        unfold Dm at hd ⊢
        omega
    · refine ⟨s.2, ?_, k2, fun x' y' w' h' a1 a2 a3 a4 hd => k3 x' y' w' h' a1 a2 a3 a4 ?_⟩
      · unfold bX12_fills_37
        rw [k1, (mono k2).1, nI_add, if_pos (nI_lt (by omega) (by omega))]
      · unfold Dm at hd ⊢
        omega
  have L3 : ∀ (h w : Nat) (S1 : St), 1 ≤ h → h ≤ H → 1 ≤ w → w ≤ W → Fr (fun a _ => a == 11) S S1 → TbM pv W H S1 (Dm h w 0 0) → ∃ S2, lp (fun w27 : Int32 × St => bX12_fills_23 way (nI h) (nI w) w27.1 w27.2) 5000 (0, S1) = some S2 ∧ Fr (fun a _ => a == 11) S S2 ∧ TbM pv W H S2 (Dm h (w + 1) 0 0) := fun h w S1 hh hhH hw hwW f0 t0 => by
    refine lp_inv (body := fun w27 : Int32 × St => bX12_fills_23 way (nI h) (nI w) w27.1 w27.2) (fun y s => s.1 = nI y ∧ Fr (fun a _ => a == 11) S s.2 ∧ TbM pv W H s.2 (Dm h w y 0)) (fun r => Fr (fun a _ => a == 11) S r ∧ TbM pv W H r (Dm h (w + 1) 0 0)) (H + 1 - h) (m := 5000) (s := (0, S1)) (by omega) ⟨rfl, f0, t0⟩ (fun y s hy ⟨k1, k2, k3⟩ => ?_) (fun s ⟨k1, k2, k3⟩ => ?_)
    · obtain ⟨S2, e, q1, q2⟩ := L4 h w y s.2 hh hw hwW (by omega) k2 k3
      left
      refine ⟨(nI (y + 1), S2), ?_, rfl, q1, q2⟩
      unfold bX12_fills_23
      rw [k1, (mono k2).2.1, nI_add, if_neg (nI_nlt (by omega) (by omega)), e, b1_s, nI_1]
    · refine ⟨s.2, ?_, k2, fun x' y' w' h' a1 a2 a3 a4 hd => k3 x' y' w' h' a1 a2 a3 a4 ?_⟩
      · unfold bX12_fills_23
        rw [k1, (mono k2).2.1, nI_add, if_pos (nI_lt (by omega) (by omega))]
      · unfold Dm at hd ⊢
        omega
  have L2 : ∀ (h : Nat) (S1 : St), 1 ≤ h → h ≤ H → Fr (fun a _ => a == 11) S S1 → TbM pv W H S1 (Dm h 1 0 0) → ∃ S2, lp (fun w24 : Int32 × St => bX12_fills_12 way (nI h) w24.1 w24.2) 5000 (1, S1) = some S2 ∧ Fr (fun a _ => a == 11) S S2 ∧ TbM pv W H S2 (Dm (h + 1) 1 0 0) := fun h S1 hh hhH f0 t0 => by
    refine lp_inv (body := fun w24 : Int32 × St => bX12_fills_12 way (nI h) w24.1 w24.2) (fun i s => s.1 = nI (i + 1) ∧ Fr (fun a _ => a == 11) S s.2 ∧ TbM pv W H s.2 (Dm h (i + 1) 0 0)) (fun r => Fr (fun a _ => a == 11) S r ∧ TbM pv W H r (Dm (h + 1) 1 0 0)) W (m := 5000) (s := (1, S1)) (by omega) ⟨rfl, f0, t0⟩ (fun i s hi ⟨k1, k2, k3⟩ => ?_) (fun s ⟨k1, k2, k3⟩ => ?_)
    · obtain ⟨S2, e, q1, q2⟩ := L3 h (i + 1) s.2 hh hhH (by omega) (by omega) k2 k3
      left
      refine ⟨(nI (i + 1 + 1), S2), ?_, rfl, q1, q2⟩
      unfold bX12_fills_12
      rw [k1, (mono k2).1, if_neg (nI_nlt (by omega) (by omega)), e, b1_s, nI_1]
    · refine ⟨s.2, ?_, k2, fun x' y' w' h' a1 a2 a3 a4 hd => k3 x' y' w' h' a1 a2 a3 a4 ?_⟩
      · unfold bX12_fills_12
        rw [k1, (mono k2).1, if_pos (nI_lt (by omega) (by omega))]
      · unfold Dm at hd ⊢
        omega
  obtain ⟨S', e, q1, q2⟩ := lp_inv (body := fun w21 : Int32 × St => bX12_fills_2 way w21.1 w21.2) (fun i s => s.1 = nI (i + 1) ∧ Fr (fun a _ => a == 11) S s.2 ∧ TbM pv W H s.2 (Dm (i + 1) 1 0 0)) (fun r => Fr (fun a _ => a == 11) S r ∧ TbM pv W H r (fun _ _ _ _ => True)) H (m := 5000) (s := (1, S)) (by omega) ⟨rfl, Fr.refl _ _, fun x y w h a1 a2 a3 a4 hd => by unfold Dm at hd; omega⟩
    (fun i s hi ⟨k1, k2, k3⟩ => by
      obtain ⟨S2, e, q1, q2⟩ := L2 (i + 1) s.2 (by omega) (by omega) k2 k3
      left
      refine ⟨(nI (i + 1 + 1), S2), ?_, rfl, q1, q2⟩
      unfold bX12_fills_2
      rw [k1, (mono k2).2.1, if_neg (nI_nlt (by omega) (by omega)), e, b1_s, nI_1])
    (fun s ⟨k1, k2, k3⟩ => ⟨s.2, by
      unfold bX12_fills_2
      rw [k1, (mono k2).2.1, if_pos (nI_lt (by omega) (by omega))], k2, fun x' y' w' h' a1 a2 a3 a4 _ => k3 x' y' w' h' a1 a2 a3 a4 (by unfold Dm; omega)⟩)
  rw [e]
  exact ⟨S', rfl, q1, q2⟩
end FILLS
