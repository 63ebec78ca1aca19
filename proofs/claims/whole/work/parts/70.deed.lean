/-! what is done with a block -/
theorem first_at {p : Nat → Bool} {N i : Nat} (hi : i < N) (hp : p i = true) (hn : ∀ k, k < i → p k = false) : fa_first p N = i := by
  have a : ¬ i < fa_first p N := fun q => by rw [fa_first_no p N i q] at hp; cases hp
  have b : ¬ fa_first p N < i := fun q => by
    have := fa_first_yes p N (by omega)
    rw [hn _ q] at this; cases this
  omega
theorem first_none {p : Nat → Bool} {N : Nat} (hn : ∀ k, k < N → p k = false) : ¬ fa_first p N < N := fun q => by
  have := fa_first_yes p N q
  rw [hn _ q] at this; cases this
/-- a loop that looks for the first -/
theorem lp_find {ρ : Type} {body : Int32 → Option (Int32 ⊕ ρ)} (N a : Nat) {m : Nat} (p : Nat → Bool) (rn : ρ) (rf : Nat → ρ) (hm : N < m) (hs : ∀ i, i < N → body (nI (a + i)) = if p i then some (.inr (rf i)) else some (.inl (nI (a + i + 1)))) (he : body (nI (a + N)) = some (.inr rn)) : lp body m (nI a) = some (if fa_first p N < N then rf (fa_first p N) else rn) := by
  obtain ⟨r, e, hr⟩ := lp_inv (body := body) (fun i s => s = nI (a + i) ∧ ∀ k, k < i → p k = false) (fun r => r = if fa_first p N < N then rf (fa_first p N) else rn) N (m := m) (s := nI a) hm ⟨rfl, fun k hk => absurd hk (by omega)⟩
    (fun i s hi ⟨k1, k2⟩ => by
      subst k1
      rw [hs i hi]
      cases hp : p i with
      | true =>
        refine Or.inr ⟨_, rfl, ?_⟩
        rw [first_at hi hp k2, if_pos hi]
      | false =>
        refine Or.inl ⟨_, rfl, rfl, fun k hk => ?_⟩
        by_cases e : k = i
        · rw [e]; exact hp
        · exact k2 k (by omega))
    (fun s ⟨k1, k2⟩ => by
      subst k1
      exact ⟨rn, he, by rw [if_neg (first_none k2)]⟩)
  rw [e, hr]
theorem lp_find' {ρ : Type} {body : Int32 → Option (Int32 ⊕ ρ)} (N a : Nat) {m : Nat} (p : Nat → Bool) (rf : Nat → ρ) (hm : N < m) (hf : fa_first p N < N) (hs : ∀ i, i < N → body (nI (a + i)) = if p i then some (.inr (rf i)) else some (.inl (nI (a + i + 1)))) : lp body m (nI a) = some (rf (fa_first p N)) := by
  obtain ⟨r, e, hr⟩ := lp_inv (body := body) (fun i s => s = nI (a + i)) (fun r => r = rf (fa_first p N)) (fa_first p N) (m := m) (s := nI a) (by omega) rfl
    (fun i s hi k1 => by
      subst k1
      rw [hs i (by omega), fa_first_no p N i hi]
      exact Or.inl ⟨_, rfl, rfl⟩)
    (fun s k1 => by
      subst k1
      rw [hs _ hf, fa_first_yes p N hf]
      exact ⟨_, rfl, rfl⟩)
  rw [e, hr]
/-- the first shape, cut down, cut across that has the value -/
def fsh (bv : Nat → Nat) (n v : Nat) : Nat := fa_first (fun s => decide (bv s = v)) n
def fdn (f : Nat → Nat → Nat → Nat → Nat) (x y w h : Nat) : Nat := fa_first (fun i => decide (f x y (1 + i) h + f (x + (1 + i)) y (w - (1 + i)) h = f x y w h)) (w - 1)
def fac (f : Nat → Nat → Nat → Nat → Nat) (x y w h : Nat) : Nat := fa_first (fun i => decide (f x y w (1 + i) + f x (y + (1 + i)) w (h - (1 + i)) = f x y w h)) (h - 1)
def dd (f : Nat → Nat → Nat → Nat → Nat) (bv : Nat → Nat) (n x y w h : Nat) : Int32 :=
  if f x y w h = 0 then -5 else if fsh bv n (f x y w h) < n then nI (fsh bv n (f x y w h)) else if fdn f x y w h < w - 1 then nI (100 + (1 + fdn f x y w h)) else nI (200 + (1 + fac f x y w h))
/-- with none of the others there is a cut across -/
theorem fac_lt {pv : Nat → Nat → Nat → Nat → Nat} {bv : Nat → Nat} {n x y w h : Nat} (hpv : pv x y w h = mx0 bv n) (hw : 1 ≤ w) (hh : 1 ≤ h) (h0 : ¬ bst pv x y w h = 0) (h1 : ¬ fsh bv n (bst pv x y w h) < n) (h2 : ¬ fdn (bst pv) x y w h < w - 1) : fac (bst pv) x y w h < h - 1 := by
  apply Classical.byContradiction
  intro h3
  have ev := bst_eq pv (x := x) (y := y) (w := w) (h := h) hw hh
  have n1 : ∀ s, s < n → bv s ≠ bst pv x y w h := fun s hs q => by
    have := fa_first_no (fun s => decide (bv s = bst pv x y w h)) n s (by unfold fsh at h1; omega)
    simp [q] at this
  have n2 : ∀ k, 1 ≤ k → k < w → bst pv x y k h + bst pv (x + k) y (w - k) h ≠ bst pv x y w h := fun k a b q => by
    have := fa_first_no (fun i => decide (bst pv x y (1 + i) h + bst pv (x + (1 + i)) y (w - (1 + i)) h = bst pv x y w h)) (w - 1) (k - 1) (by unfold fdn at h2; omega)
    rw [show 1 + (k - 1) = k by omega] at this
    simp [q] at this
  have n3 : ∀ k, 1 ≤ k → k < h → bst pv x y w k + bst pv x (y + k) w (h - k) ≠ bst pv x y w h := fun k a b q => by
    have := fa_first_no (fun i => decide (bst pv x y w (1 + i) + bst pv x (y + (1 + i)) w (h - (1 + i)) = bst pv x y w h)) (h - 1) (k - 1) (by unfold fac at h3; omega)
    rw [show 1 + (k - 1) = k by omega] at this
    simp [q] at this
  rw [hpv] at ev
  have c1 : ¬ mx0 bv n = bst pv x y w h := fun q => by
    obtain ⟨k, a, b⟩ := mx0_at (f := bv) (n := n) (by omega)
    exact n1 k a (by omega)
  have c2 : ¬ mx1 (fun k => bst pv x y k h + bst pv (x + k) y (w - k) h) w = bst pv x y w h := fun q => by
    obtain ⟨k, a, b, c⟩ := mx1_at (f := fun k => bst pv x y k h + bst pv (x + k) y (w - k) h) (n := w) (by omega)
    exact n2 k a b (by rw [← q]; exact c)
  have c3 : ¬ mx1 (fun k => bst pv x y w k + bst pv x (y + k) w (h - k)) h = bst pv x y w h := fun q => by
    obtain ⟨k, a, b, c⟩ := mx1_at (f := fun k => bst pv x y w k + bst pv x (y + k) w (h - k)) (n := h) (by omega)
    exact n3 k a b (by rw [← q]; exact c)
  omega
theorem placeOf_e (S : St) {x y w h : Nat} (hw : 1 ≤ w) (hh : 1 ≤ h) : fX6_placeOf S (nI x) (nI y) (nI w) (nI h) = some (nI (pl x y w h)) := by
  unfold fX6_placeOf fX11_squareAt
  have a1 : nI h - 1 = nI (h - 1) := nI_sub (b := 1) hh
  have a2 : nI w - 1 = nI (w - 1) := nI_sub (b := 1) hw
  have a3 : nI (h - 1) * 64 = nI ((h - 1) * 64) := nI_mul _ 64
  have a4 : nI (w - 1) * 512 = nI ((w - 1) * 512) := nI_mul _ 512
  have a5 : nI y * 8 = nI (y * 8) := nI_mul _ 8
  rw [b1_s, a1, a2, a3, a4, a5, nI_add, nI_add, nI_add]
  exact congrArg some (congrArg nI (by unfold pl; omega))
theorem pl_lt {x y w h : Nat} (hx : x < 8) (hy : y < 8) (hw : 1 ≤ w) (hh : 1 ≤ h) (hw8 : w ≤ 8) (hh8 : h ≤ 8) : pl x y w h < 4096 := by unfold pl; omega
section DEED
variable {gr : Nat → Nat} {vc : Nat} {vw : Nat → Nat → Bool} {n : Nat} {sw sh pr ls : Nat → Nat} {tn : Nat → Bool} {W H x0 y0 w0 h0 : Nat} {way : Int32} {pv : Nat → Nat → Nat → Nat → Nat}
theorem decide_x {S : St} {x y w h : Nat} (hpv : pv = pvl gr vc vw n sw sh pr ls tn) (hX : XW gr vc vw n sw sh pr ls tn W H S) (hT : Tb pv x0 y0 w0 h0 S (fun _ _ _ _ => True)) (sb : ShB n sw sh pr ls) (hb : GrB gr) (hvc : vc ≤ 4) (hW : W ≤ 8) (hH : H ≤ 8) (hx : x0 + w0 ≤ W) (hy : y0 + h0 ≤ H) (hw1 : 1 ≤ w) (hh1 : 1 ≤ h) (a1 : x0 ≤ x) (a2 : x + w ≤ x0 + w0) (a3 : y0 ≤ y) (a4 : y + h ≤ y0 + h0) :
    fX6_decide S (nI x) (nI y) (nI w) (nI h) = some (dd (bst pv) (fun s => brs gr vc vw sw sh pr ls tn s x y w h) n x y w h) := by
  have hn := sb.1
  have bl' : ∀ x y w h, 1 ≤ w → 1 ≤ h → w ≤ 8 → h ≤ 8 → bst pv x y w h ≤ 128000 := fun x y w h a b c d => by rw [hpv]; exact bstp_le sb a b c d
  have lv := bl' x y w h hw1 hh1 (by omega) (by omega)
  have ev := hT x y w h hw1 hh1 a1 a2 a3 a4 trivial
  obtain ⟨m, em, hm⟩ := hX.mark hW hH (x := x) (y := y) (w := w) (v := h) (by omega) (by omega)
  have es : (nI h - 1) * 8 + (nI w - 1) = nI (8 * (h - 1) + (w - 1)) := by
    have b1 : nI h - 1 = nI (h - 1) := nI_sub (b := 1) hh1
    have b2 : nI w - 1 = nI (w - 1) := nI_sub (b := 1) hw1
    have b3 : nI (h - 1) * 8 = nI ((h - 1) * 8) := nI_mul _ 8
    rw [b1, b2, b3, nI_add]; exact congrArg nI (by omega)
  have hsu := hX.2.2 w h hw1 (by omega) hh1 (by omega)
  have z0 : (nI (bst pv x y w h) = 0) ↔ bst pv x y w h = 0 := nI_eq (b := 0) (by omega) (by omega)
  unfold fX6_decide fX11_squareAt dd
  rw [placeOf_e S hw1 hh1, b1_s, rI_n (pl_lt (by omega) (by omega) hw1 hh1 (by omega) (by omega)) (by omega), b1_s, ev]
  by_cases c0 : bst pv x y w h = 0
  · rw [if_pos (z0.mpr c0), if_pos c0]
  · rw [if_neg (fun q => c0 (z0.mp q)), if_neg c0, b1_s, es, rI_n (by omega) (by omega), b1_s, em, b1_s]
    have l1 := lp_find (body := fun w26 : Int32 => bX6_decide_54 S (nI (bst pv x y w h)) (aI_ S 30 (8 * (h - 1) + (w - 1))) m w26) n 0 (m := 5000) (fun s => decide (brs gr vc vw sw sh pr ls tn s x y w h = bst pv x y w h)) (.inl ()) (fun s => .inr (nI s)) (by omega) (fun i hi => by
      have l2 : brs gr vc vw sw sh pr ls tn i x y w h ≤ 2000 := brs_le sb hi
      show bX6_decide_54 S (nI (bst pv x y w h)) (aI_ S 30 (8 * (h - 1) + (w - 1))) m (nI (0 + i)) = _
      rw [Nat.zero_add]
      unfold bX6_decide_54
      rw [hX.1.1, if_neg (nI_ge hi (by omega)), bit1_i (by omega), hsu i (by omega), show decide (i < n) = true by simp [hi], Bool.true_and, nI_1]
      cases ho : ofSz sw sh tn i w h with
      | false =>
        have : brs gr vc vw sw sh pr ls tn i x y w h = 0 := by unfold brs; rw [ho]; rfl
        rw [this, show decide (0 = bst pv x y w h) = false from decide_eq_false (fun q => c0 q.symm)]
        rfl
      | true =>
        rw [brings_x hX.1 sb hb hvc hi (by omega) (by omega) hw1 hh1 hm ho]
        simp only [if_true, b1_s, bs_l, bs_r, oI_e, oL_e, oR_e]
        by_cases c : brs gr vc vw sw sh pr ls tn i x y w h = bst pv x y w h
        · rw [if_pos (congrArg nI c)]; simp [c]
        · rw [if_neg (fun q => c ((nI_eq (by omega) (by omega)).mp q))]; simp [c]) (by
      show bX6_decide_54 S (nI (bst pv x y w h)) (aI_ S 30 (8 * (h - 1) + (w - 1))) m (nI (0 + n)) = _
      rw [Nat.zero_add]
      unfold bX6_decide_54
      rw [hX.1.1, if_pos (nI_le (Nat.le_refl _) (by omega))])
    have l1' : lp (fun w26 : Int32 => bX6_decide_54 S (nI (bst pv x y w h)) (aI_ S 30 (8 * (h - 1) + (w - 1))) m w26) 5000 0 = _ := l1
    rw [l1']
    by_cases c1 : fsh (fun s => brs gr vc vw sw sh pr ls tn s x y w h) n (bst pv x y w h) < n
    · rw [if_pos c1]
      have c1' : fa_first (fun s => decide (brs gr vc vw sw sh pr ls tn s x y w h = bst pv x y w h)) n < n := c1
      rw [if_pos c1']
      rfl
    · rw [if_neg c1]
      have c1' : ¬ fa_first (fun s => decide (brs gr vc vw sw sh pr ls tn s x y w h = bst pv x y w h)) n < n := c1
      rw [if_neg c1', bs_l]
      unfold fX6_firstCut
      rw [placeOf_e S hw1 hh1, b1_s, rI_n (pl_lt (by omega) (by omega) hw1 hh1 (by omega) (by omega)) (by omega), b1_s, ev]
      have l2 := lp_find (body := fun w23 : Int32 => bX6_firstCut_18 S (nI x) (nI y) (nI w) (nI h) (nI (bst pv x y w h)) w23) (w - 1) 1 (m := 5000) (fun i => decide (bst pv x y (1 + i) h + bst pv (x + (1 + i)) y (w - (1 + i)) h = bst pv x y w h)) (.inl ()) (fun i => .inr (nI (100 + (1 + i)))) (by omega) (fun i hi => by
        have t1 := hT x y (1 + i) h (by omega) hh1 a1 (by omega) a3 a4 trivial
        have t2 := hT (x + (1 + i)) y (w - (1 + i)) h (by omega) hh1 (by omega) (by omega) a3 a4 trivial
        have u1 := bl' x y (1 + i) h (by omega) hh1 (by omega) (by omega)
        have u2 := bl' (x + (1 + i)) y (w - (1 + i)) h (by omega) hh1 (by omega) (by omega)
        show bX6_firstCut_18 S (nI x) (nI y) (nI w) (nI h) (nI (bst pv x y w h)) (nI (1 + i)) = _
        unfold bX6_firstCut_18
        have e100 : 100 + nI (1 + i) = nI (100 + (1 + i)) := nI_add 100 _
        rw [if_neg (nI_ge (by omega) (by omega)), nI_add, nI_sub (show 1 + i ≤ w by omega), placeOf_e S (by omega) hh1, b1_s, rI_n (pl_lt (by omega) (by omega) (by omega) hh1 (by omega) (by omega)) (by omega), b1_s, placeOf_e S (by omega) hh1, b1_s, rI_n (pl_lt (by omega) (by omega) (by omega) hh1 (by omega) (by omega)) (by omega), b1_s, t1, t2, nI_add, e100, nI_1]
        by_cases c : bst pv x y (1 + i) h + bst pv (x + (1 + i)) y (w - (1 + i)) h = bst pv x y w h
        · rw [if_pos (congrArg nI c)]; simp [c]
        · rw [if_neg (fun q => c ((nI_eq (by omega) (by omega)).mp q))]; simp [c]) (by
        show bX6_firstCut_18 S (nI x) (nI y) (nI w) (nI h) (nI (bst pv x y w h)) (nI (1 + (w - 1))) = _
        unfold bX6_firstCut_18
        rw [if_pos (nI_le (by omega) (by omega))])
      have l2' : lp (fun w23 : Int32 => bX6_firstCut_18 S (nI x) (nI y) (nI w) (nI h) (nI (bst pv x y w h)) w23) 5000 1 = _ := l2
      rw [l2']
      by_cases c2 : fdn (bst pv) x y w h < w - 1
      · rw [if_pos c2]
        have c2' : fa_first (fun i => decide (bst pv x y (1 + i) h + bst pv (x + (1 + i)) y (w - (1 + i)) h = bst pv x y w h)) (w - 1) < w - 1 := c2
        rw [if_pos c2']
        rfl
      · rw [if_neg c2]
        have c2' : ¬ fa_first (fun i => decide (bst pv x y (1 + i) h + bst pv (x + (1 + i)) y (w - (1 + i)) h = bst pv x y w h)) (w - 1) < w - 1 := c2
        rw [if_neg c2', bs_l]
        have c3 := fac_lt (pv := pv) (bv := fun s => brs gr vc vw sw sh pr ls tn s x y w h) (n := n) (by rw [hpv]; rfl) hw1 hh1 c0 c1 c2
        have l3 := lp_find' (body := fun w32 : Int32 => bX6_firstCut_78 S (nI x) (nI y) (nI w) (nI h) (nI (bst pv x y w h)) w32) (h - 1) 1 (m := 5000) (fun i => decide (bst pv x y w (1 + i) + bst pv x (y + (1 + i)) w (h - (1 + i)) = bst pv x y w h)) (fun i => .inr (nI (200 + (1 + i)))) (by omega) c3 (fun i hi => by
          have t1 := hT x y w (1 + i) hw1 (by omega) a1 a2 a3 (by omega) trivial
          have t2 := hT x (y + (1 + i)) w (h - (1 + i)) hw1 (by omega) a1 a2 (by omega) (by omega) trivial
          have u1 := bl' x y w (1 + i) hw1 (by omega) (by omega) (by omega)
          have u2 := bl' x (y + (1 + i)) w (h - (1 + i)) hw1 (by omega) (by omega) (by omega)
          show bX6_firstCut_78 S (nI x) (nI y) (nI w) (nI h) (nI (bst pv x y w h)) (nI (1 + i)) = _
          unfold bX6_firstCut_78
          have e200 : 200 + nI (1 + i) = nI (200 + (1 + i)) := nI_add 200 _
          rw [if_neg (nI_ge (by omega) (by omega)), nI_add, nI_sub (show 1 + i ≤ h by omega), placeOf_e S hw1 (by omega), b1_s, rI_n (pl_lt (by omega) (by omega) hw1 (by omega) (by omega) (by omega)) (by omega), b1_s, placeOf_e S hw1 (by omega), b1_s, rI_n (pl_lt (by omega) (by omega) hw1 (by omega) (by omega) (by omega)) (by omega), b1_s, t1, t2, nI_add, e200, nI_1]
          by_cases c : bst pv x y w (1 + i) + bst pv x (y + (1 + i)) w (h - (1 + i)) = bst pv x y w h
          · rw [if_pos (congrArg nI c)]; simp [c]
          · rw [if_neg (fun q => c ((nI_eq (by omega) (by omega)).mp q))]; simp [c])
        have l3' : lp (fun w32 : Int32 => bX6_firstCut_78 S (nI x) (nI y) (nI w) (nI h) (nI (bst pv x y w h)) w32) 5000 1 = _ := l3
        rw [l3']
        rfl
theorem deed_m {S : St} {x y w h : Nat} (hpv : pv = pvl gr vc vw n sw sh pr ls tn) (hc : MC way gr vc vw n sw sh pr ls tn W H S) (hT : TbM pv W H S (fun _ _ _ _ => True)) (sb : ShB n sw sh pr ls) (hb : GrB gr) (hW : W ≤ 8) (hH : H ≤ 8) (hw1 : 1 ≤ w) (hh1 : 1 ≤ h) (a2 : x + w ≤ W) (a4 : y + h ≤ H) :
    fX12_deed S (nI x) (nI y) (nI w) (nI h) way = some (dd (bst pv) (fun s => brs gr vc vw sw sh pr ls tn s x y w h) n x y w h) := by
  have hn := sb.1
  have bl' : ∀ x y w h, 1 ≤ w → 1 ≤ h → w ≤ 8 → h ≤ 8 → bst pv x y w h ≤ 128000 := fun x y w h a b c d => by rw [hpv]; exact bstp_le sb a b c d
  have lv := bl' x y w h hw1 hh1 (by omega) (by omega)
  have ev := hT x y w h hw1 hh1 a2 a4 trivial
  have z0 : (nI (bst pv x y w h) = 0) ↔ bst pv x y w h = 0 := nI_eq (b := 0) (by omega) (by omega)
  unfold fX12_deed dd
  rw [blockAt_e S hw1 hh1, b1_s, rI_n (bl_lt (by omega) (by omega) hw1 hh1 (by omega) (by omega)) (by omega), b1_s, ev]
  by_cases c0 : bst pv x y w h = 0
  · rw [if_pos (z0.mpr c0), if_pos c0]
  · rw [if_neg (fun q => c0 (z0.mp q)), if_neg c0]
    have l1 := lp_find (body := fun w23 : Int32 => bX12_deed_26 S (nI x) (nI y) (nI w) (nI h) way (nI (bst pv x y w h)) w23) n 0 (m := 5000) (fun s => decide (brs gr vc vw sw sh pr ls tn s x y w h = bst pv x y w h)) (.inl ()) (fun s => .inr (nI s)) (by omega) (fun i hi => by
      have l2 : brs gr vc vw sw sh pr ls tn i x y w h ≤ 2000 := brs_le sb hi
      obtain ⟨r, e, hr⟩ := brings_m (s := i) hc sb hb hW hH a2 a4 hi
      show bX12_deed_26 S (nI x) (nI y) (nI w) (nI h) way (nI (bst pv x y w h)) (nI (0 + i)) = _
      rw [Nat.zero_add]
      unfold bX12_deed_26
      rw [hc.2.2.1.1, if_neg (nI_ge hi (by omega)), e, b1_s, nI_1]
      rcases hr with rfl | ⟨rfl, z⟩
      · by_cases c : brs gr vc vw sw sh pr ls tn i x y w h = bst pv x y w h
        · rw [if_pos (congrArg nI c)]; simp [c]
        · rw [if_neg (fun q => c ((nI_eq (by omega) (by omega)).mp q))]; simp [c]
      · rw [z, show decide (0 = bst pv x y w h) = false from decide_eq_false (fun q => c0 q.symm), if_neg (fun q => (m4_ne (show bst pv x y w h < 2 ^ 31 by omega)).mp q.symm)]
        rfl) (by
      show bX12_deed_26 S (nI x) (nI y) (nI w) (nI h) way (nI (bst pv x y w h)) (nI (0 + n)) = _
      rw [Nat.zero_add]
      unfold bX12_deed_26
      rw [hc.2.2.1.1, if_pos (nI_le (Nat.le_refl _) (by omega))])
    have l1' : lp (fun w23 : Int32 => bX12_deed_26 S (nI x) (nI y) (nI w) (nI h) way (nI (bst pv x y w h)) w23) 5000 0 = _ := l1
    rw [l1']
    by_cases c1 : fsh (fun s => brs gr vc vw sw sh pr ls tn s x y w h) n (bst pv x y w h) < n
    · rw [if_pos c1]
      have c1' : fa_first (fun s => decide (brs gr vc vw sw sh pr ls tn s x y w h = bst pv x y w h)) n < n := c1
      rw [if_pos c1']
      rfl
    · rw [if_neg c1]
      have c1' : ¬ fa_first (fun s => decide (brs gr vc vw sw sh pr ls tn s x y w h = bst pv x y w h)) n < n := c1
      rw [if_neg c1', bs_l]
      have l2 := lp_find (body := fun w29 : Int32 => bX12_deed_65 S (nI x) (nI y) (nI w) (nI h) (nI (bst pv x y w h)) w29) (w - 1) 1 (m := 5000) (fun i => decide (bst pv x y (1 + i) h + bst pv (x + (1 + i)) y (w - (1 + i)) h = bst pv x y w h)) (.inl ()) (fun i => .inr (nI (100 + (1 + i)))) (by omega) (fun i hi => by
        have t1 := hT x y (1 + i) h (by omega) hh1 (by omega) a4 trivial
        have t2 := hT (x + (1 + i)) y (w - (1 + i)) h (by omega) hh1 (by omega) a4 trivial
        have u1 := bl' x y (1 + i) h (by omega) hh1 (by omega) (by omega)
        have u2 := bl' (x + (1 + i)) y (w - (1 + i)) h (by omega) hh1 (by omega) (by omega)
        show bX12_deed_65 S (nI x) (nI y) (nI w) (nI h) (nI (bst pv x y w h)) (nI (1 + i)) = _
        unfold bX12_deed_65
        have e100 : 100 + nI (1 + i) = nI (100 + (1 + i)) := nI_add 100 _
        rw [if_neg (nI_ge (by omega) (by omega)), nI_add, nI_sub (show 1 + i ≤ w by omega), blockAt_e S (by omega) hh1, b1_s, rI_n (bl_lt (by omega) (by omega) (by omega) hh1 (by omega) (by omega)) (by omega), b1_s, blockAt_e S (by omega) hh1, b1_s, rI_n (bl_lt (by omega) (by omega) (by omega) hh1 (by omega) (by omega)) (by omega), b1_s, t1, t2, nI_add, e100, nI_1]
        by_cases c : bst pv x y (1 + i) h + bst pv (x + (1 + i)) y (w - (1 + i)) h = bst pv x y w h
        · rw [if_pos (congrArg nI c)]; simp [c]
        · rw [if_neg (fun q => c ((nI_eq (by omega) (by omega)).mp q))]; simp [c]) (by
        show bX12_deed_65 S (nI x) (nI y) (nI w) (nI h) (nI (bst pv x y w h)) (nI (1 + (w - 1))) = _
        unfold bX12_deed_65
        rw [if_pos (nI_le (by omega) (by omega))])
      have l2' : lp (fun w29 : Int32 => bX12_deed_65 S (nI x) (nI y) (nI w) (nI h) (nI (bst pv x y w h)) w29) 5000 1 = _ := l2
      rw [l2']
      by_cases c2 : fdn (bst pv) x y w h < w - 1
      · rw [if_pos c2]
        have c2' : fa_first (fun i => decide (bst pv x y (1 + i) h + bst pv (x + (1 + i)) y (w - (1 + i)) h = bst pv x y w h)) (w - 1) < w - 1 := c2
        rw [if_pos c2']
        rfl
      · rw [if_neg c2]
        have c2' : ¬ fa_first (fun i => decide (bst pv x y (1 + i) h + bst pv (x + (1 + i)) y (w - (1 + i)) h = bst pv x y w h)) (w - 1) < w - 1 := c2
        rw [if_neg c2', bs_l]
        have c3 := fac_lt (pv := pv) (bv := fun s => brs gr vc vw sw sh pr ls tn s x y w h) (n := n) (by rw [hpv]; rfl) hw1 hh1 c0 c1 c2
        have l3 := lp_find' (body := fun w38 : Int32 => bX12_deed_125 S (nI x) (nI y) (nI w) (nI h) (nI (bst pv x y w h)) w38) (h - 1) 1 (m := 5000) (fun i => decide (bst pv x y w (1 + i) + bst pv x (y + (1 + i)) w (h - (1 + i)) = bst pv x y w h)) (fun i => nI (1 + i)) (by omega) c3 (fun i hi => by
          have t1 := hT x y w (1 + i) hw1 (by omega) a2 (by omega) trivial
          have t2 := hT x (y + (1 + i)) w (h - (1 + i)) hw1 (by omega) a2 (by omega) trivial
          have u1 := bl' x y w (1 + i) hw1 (by omega) (by omega) (by omega)
          have u2 := bl' x (y + (1 + i)) w (h - (1 + i)) hw1 (by omega) (by omega) (by omega)
          show bX12_deed_125 S (nI x) (nI y) (nI w) (nI h) (nI (bst pv x y w h)) (nI (1 + i)) = _
          unfold bX12_deed_125
          rw [nI_add, nI_sub (show 1 + i ≤ h by omega), blockAt_e S hw1 (by omega), b1_s, rI_n (bl_lt (by omega) (by omega) hw1 (by omega) (by omega) (by omega)) (by omega), b1_s, blockAt_e S hw1 (by omega), b1_s, rI_n (bl_lt (by omega) (by omega) hw1 (by omega) (by omega) (by omega)) (by omega), b1_s, t1, t2, nI_add, nI_1]
          by_cases c : bst pv x y w (1 + i) + bst pv x (y + (1 + i)) w (h - (1 + i)) = bst pv x y w h
          · rw [if_pos (congrArg nI c)]; simp [c]
          · rw [if_neg (fun q => c ((nI_eq (by omega) (by omega)).mp q))]; simp [c])
        have l3' : lp (fun w38 : Int32 => bX12_deed_125 S (nI x) (nI y) (nI w) (nI h) (nI (bst pv x y w h)) w38) 5000 1 = _ := l3
        rw [l3', b1_s]
        exact congrArg some (nI_add 200 _)
end DEED
