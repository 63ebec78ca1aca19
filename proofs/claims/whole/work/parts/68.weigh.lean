/-! the saw: weigh -/
section WEIGH
variable {gr : Nat → Nat} {vc : Nat} {vw : Nat → Nat → Bool} {n : Nat} {sw sh pr ls : Nat → Nat} {tn : Nat → Bool} {W H x0 y0 w0 h0 : Nat}
def XW (gr : Nat → Nat) (vc : Nat) (vw : Nat → Nat → Bool) (n : Nat) (sw sh pr ls : Nat → Nat) (tn : Nat → Bool) (W H : Nat) (S : St) : Prop :=
  Shp S 21 5 22 n sw sh pr ls tn ∧ (∀ y, y < H → ∀ x, x < W → ∀ i, i < 32 → bt (aI_ S 29 (8 * y + x)) i = mkb gr vc vw i (8 * y + x)) ∧ (∀ w h, 1 ≤ w → w ≤ 8 → 1 ≤ h → h ≤ 8 → ∀ s, s < 32 → bt (aI_ S 30 (8 * (h - 1) + (w - 1))) s = (decide (s < n) && ofSz sw sh tn s w h))
def pBd (a _b : Nat) : Bool := decide (31 ≤ a) && decide (a ≤ 33)
theorem XW.fr {S S' : St} (h : XW gr vc vw n sw sh pr ls tn W H S) (hf : Fr pBd S S') : XW gr vc vw n sw sh pr ls tn W H S' :=
  ⟨h.1.fr hf rfl (fun k j z1 z2 => by simp [pBd]; omega), fun y hy x hx i hi => by rw [hf.aI rfl]; exact h.2.1 y hy x hx i hi, fun w h' a b c d s hs => by rw [hf.aI rfl]; exact h.2.2 w h' a b c d s hs⟩
theorem XW.mark {S : St} (h : XW gr vc vw n sw sh pr ls tn W H S) (hW : W ≤ 8) (hH : H ≤ 8) {x y w v : Nat} (hx : x + w ≤ W) (hy : y + v ≤ H) : ∃ m, fX6_markOf S (nI x) (nI y) (nI w) (nI v) = some m ∧ MkB gr vc vw x y w v m :=
  markOf_x (mk := mkb gr vc vw) (by omega) (by omega) (fun j hj i hi b hb => h.2.1 (y + j) (by omega) (x + i) (by omega) b hb)
theorem allB_add (p : Nat → Bool) {x y w h : Nat} : (allB p x y w h && allB p (x + w) y 1 h) = allB p x y (w + 1) h := by
  unfold allB
  rw [← Bool.decide_and, decide_eq_decide]
  constructor
  · intro ⟨q1, q2⟩ j hj i hi
    by_cases c : i < w
    · exact q1 j hj i c
    · have := q2 j hj 0 (by omega)
      rw [show x + w + 0 = x + i by omega] at this
      exact this
  · intro q
    refine ⟨fun j hj i hi => q j hj i (by omega), fun j hj i hi => ?_⟩
    have := q j hj w (by omega)
    rw [show x + w + i = x + w by omega]
    exact this
theorem band1 {S : St} {top high : Nat} (hX : XW gr vc vw n sw sh pr ls tn W H S) (hW : W ≤ 8) (hH : H ≤ 8) (hx : x0 + w0 ≤ W) (hy : top + high ≤ H) : ∃ S', lp (fun w21 : Int32 × St => bX6_weighBand_3 (nI x0) (nI w0) (nI top) (nI high) w21.1 w21.2) 5000 (nI x0, S) = some S' ∧ Fr (fun a _ => a == 31 || a == 32) S S' ∧ ∀ c, x0 ≤ c → c < x0 + w0 → MkB gr vc vw c top 1 high (aI_ S' 31 c) ∧ MkB gr vc vw c top 1 high (aI_ S' 32 c) := by
  refine lp_inv (body := fun w21 : Int32 × St => bX6_weighBand_3 (nI x0) (nI w0) (nI top) (nI high) w21.1 w21.2) (fun i s => s.1 = nI (x0 + i) ∧ Fr (fun a _ => a == 31 || a == 32) S s.2 ∧ ∀ c, x0 ≤ c → c < x0 + i → MkB gr vc vw c top 1 high (aI_ s.2 31 c) ∧ MkB gr vc vw c top 1 high (aI_ s.2 32 c)) (fun r => Fr (fun a _ => a == 31 || a == 32) S r ∧ ∀ c, x0 ≤ c → c < x0 + w0 → MkB gr vc vw c top 1 high (aI_ r 31 c) ∧ MkB gr vc vw c top 1 high (aI_ r 32 c)) w0 (m := 5000) (s := (nI x0, S)) (by omega) ⟨rfl, Fr.refl _ _, fun c h1 h2 => absurd h2 (by omega)⟩ (fun i s hi ⟨k1, k2, k3⟩ => ?_) (fun s ⟨k1, k2, k3⟩ => ?_)
  · have hX' : XW gr vc vw n sw sh pr ls tn W H s.2 := hX.fr (k2.mono (by intro a b z; simp [pBd] at z ⊢; omega))
    obtain ⟨m, e, hm⟩ := hX'.mark hW hH (x := x0 + i) (y := top) (w := 1) (v := high) (by omega) hy
    left
    refine ⟨(nI (x0 + i + 1), pA_ (pA_ s.2 31 (x0 + i) m) 32 (x0 + i) m), ?_, rfl, (k2.pA (by simp)).pA (by simp), fun c h1 h2 => ?_⟩
    · have e' : fX6_markOf s.2 (nI (x0 + i)) (nI top) 1 (nI high) = some m := e
      unfold bX6_weighBand_3
      rw [k1, nI_add, if_neg (nI_ge (by omega) (by omega)), e', b1_s, wI_n (by omega) (by omega), b1_s, rI_n (by omega) (by omega), b1_s, aI_pA, if_pos ⟨rfl, rfl⟩, wI_n (by omega) (by omega), b1_s, nI_1]
    · simp only [gI_pI, gI_pL, gI_pA, gI_pB, gI_pR, gI_pW, gL_pI, gL_pL, gL_pA, gL_pB, gL_pR, gL_pW, aI_pI, aI_pL, aI_pA, aI_pB, aI_pR, aI_pW, aL_pI, aL_pL, aL_pA, aL_pB, aL_pR, aL_pW, gR_pI, gR_pL, gR_pA, gR_pB, gR_pR, gR_pW, Nat.reduceEqDiff, false_and, if_false, true_and]
      by_cases z : c = x0 + i
      · rw [if_pos z, if_pos z, z]; exact ⟨hm, hm⟩
      · rw [if_neg z, if_neg z]; exact k3 c h1 (by omega)
  · refine ⟨s.2, ?_, k2, k3⟩
    unfold bX6_weighBand_3
    rw [k1, nI_add, if_pos (nI_le (Nat.le_refl _) (by omega))]
/-- the blocks that are weighed already -/
def Dn (hi tp wd lf x y w h : Nat) : Prop := h < hi ∨ (h = hi ∧ (y < tp ∨ (y = tp ∧ (w < wd ∨ (w = wd ∧ x < lf)))))
def Tb (pv : Nat → Nat → Nat → Nat → Nat) (x0 y0 w0 h0 : Nat) (S : St) (Q : Nat → Nat → Nat → Nat → Prop) : Prop := ∀ x y w h, 1 ≤ w → 1 ≤ h → x0 ≤ x → x + w ≤ x0 + w0 → y0 ≤ y → y + h ≤ y0 + h0 → Q x y w h → aI_ S 33 (pl x y w h) = nI (bst pv x y w h)
theorem pl_inj {x y w h x' y' w' h' : Nat} (hx : x < 8) (hy : y < 8) (hw : 1 ≤ w) (hh : 1 ≤ h) (hh8 : h ≤ 8) (hx' : x' < 8) (hy' : y' < 8) (hw' : 1 ≤ w') (hh' : 1 ≤ h') (hh8' : h' ≤ 8) (e : pl x y w h = pl x' y' w' h') : x = x' ∧ y = y' ∧ w = w' ∧ h = h' := by
  unfold pl at e
  have a1 : x = x' := by omega
  have a2 : y = y' := by omega
  have a3 : w = w' := by omega
  have a4 : h = h' := by omega
  exact ⟨a1, a2, a3, a4⟩
theorem band3 {S : St} {top high wide : Nat} {pv : Nat → Nat → Nat → Nat → Nat} (hpv : pv = pvl gr vc vw n sw sh pr ls tn) (hX : XW gr vc vw n sw sh pr ls tn W H S) (sb : ShB n sw sh pr ls) (hb : GrB gr) (hvc : vc ≤ 4) (hW : W ≤ 8) (hH : H ≤ 8) (hx : x0 + w0 ≤ W) (hy : y0 + h0 ≤ H) (ht1 : y0 ≤ top) (ht2 : top + high ≤ y0 + h0) (hh : 1 ≤ high) (hw1 : 1 ≤ wide) (hw2 : wide ≤ w0)
    (hcol : ∀ c, x0 ≤ c → c < x0 + w0 → MkB gr vc vw c top 1 high (aI_ S 31 c)) (hblk : ∀ l, x0 ≤ l → l + wide ≤ x0 + w0 → MkB gr vc vw l top (max 1 (wide - 1)) high (aI_ S 32 l)) (hT : Tb pv x0 y0 w0 h0 S (Dn high top wide x0)) :
    ∃ S', lp (fun w36 : Int32 × Int32 × St => bX6_weighBand_89 (nI x0) (nI w0) (nI high) (nI wide) (aI_ S 30 (8 * (high - 1) + (wide - 1))) w36.1 w36.2.1 w36.2.2) 5000 (nI (pl x0 top wide high), nI x0, S) = some S' ∧ Fr (fun a _ => a == 32 || a == 33) S S' ∧ (∀ l, x0 ≤ l → l + wide ≤ x0 + w0 → MkB gr vc vw l top wide high (aI_ S' 32 l)) ∧ Tb pv x0 y0 w0 h0 S' (Dn high top (wide + 1) x0) := by
  refine lp_inv (body := fun w36 : Int32 × Int32 × St => bX6_weighBand_89 (nI x0) (nI w0) (nI high) (nI wide) (aI_ S 30 (8 * (high - 1) + (wide - 1))) w36.1 w36.2.1 w36.2.2) (fun i s => s.1 = nI (pl (x0 + i) top wide high) ∧ s.2.1 = nI (x0 + i) ∧ Fr (fun a _ => a == 32 || a == 33) S s.2.2 ∧ (∀ l, x0 ≤ l → l < x0 + i → MkB gr vc vw l top wide high (aI_ s.2.2 32 l)) ∧ (∀ l, x0 + i ≤ l → l + wide ≤ x0 + w0 → MkB gr vc vw l top (max 1 (wide - 1)) high (aI_ s.2.2 32 l)) ∧ Tb pv x0 y0 w0 h0 s.2.2 (Dn high top wide (x0 + i))) (fun r => Fr (fun a _ => a == 32 || a == 33) S r ∧ (∀ l, x0 ≤ l → l + wide ≤ x0 + w0 → MkB gr vc vw l top wide high (aI_ r 32 l)) ∧ Tb pv x0 y0 w0 h0 r (Dn high top (wide + 1) x0)) (w0 + 1 - wide) (m := 5000) (s := (nI (pl x0 top wide high), nI x0, S)) (by omega) ⟨rfl, rfl, Fr.refl _ _, fun l h1 h2 => absurd h2 (by omega), hblk, hT⟩ (fun i s hi ⟨k1, k2, k3, k4, k5, k6⟩ => ?_) (fun s ⟨k1, k2, k3, k4, k5, k6⟩ => ?_)
  · have kB : Fr pBd S s.2.2 := k3.mono (by intro a b z; simp [pBd] at z ⊢; omega)
    have hX' : XW gr vc vw n sw sh pr ls tn W H s.2.2 := hX.fr kB
    have m1 := k5 (x0 + i) (Nat.le_refl _) (by omega)
    have m2 : MkB gr vc vw (x0 + i + wide - 1) top 1 high (aI_ s.2.2 31 (x0 + i + wide - 1)) := by rw [k3.aI (by simp)]; exact hcol _ (by omega) (by omega)
    have m3 : MkB gr vc vw (x0 + i) top wide high (aI_ s.2.2 32 (x0 + i) &&& aI_ s.2.2 31 (x0 + i + wide - 1)) := fun b hb' => by
      rw [b_and, m1 b hb', m2 b hb']
      by_cases c : wide = 1
      · subst c
        rw [show x0 + i + 1 - 1 = x0 + i by omega, show max 1 (1 - 1) = 1 from rfl, Bool.and_self]
      · rw [show max 1 (wide - 1) = wide - 1 by omega, show x0 + i + wide - 1 = x0 + i + (wide - 1) by omega, allB_add, show wide - 1 + 1 = wide by omega]
    obtain ⟨S42, hS42⟩ : ∃ S42, S42 = pA_ s.2.2 32 (x0 + i) (aI_ s.2.2 32 (x0 + i) &&& aI_ s.2.2 31 (x0 + i + wide - 1)) := ⟨_, rfl⟩
    have f42 : Fr (fun a _ => a == 32) s.2.2 S42 := by rw [hS42]; exact Fr.pA (by simp) (Fr.refl _ _)
    have hX42 : XW gr vc vw n sw sh pr ls tn W H S42 := hX'.fr (f42.mono (by intro a b z; simp [pBd] at z ⊢; omega))
    have t42 : ∀ q, aI_ S42 33 q = aI_ s.2.2 33 q := fun q => f42.aI (by simp)
    have b42 : aI_ S42 32 (x0 + i) = aI_ s.2.2 32 (x0 + i) &&& aI_ s.2.2 31 (x0 + i + wide - 1) := by rw [hS42, aI_pA, if_pos ⟨rfl, rfl⟩]
    have bl : ∀ x y w h, 1 ≤ w → 1 ≤ h → w ≤ 8 → h ≤ 8 → bst pv x y w h ≤ 128000 := fun x y w h a b c d => by rw [hpv]; exact bstp_le sb a b c d
    have eD := bestDown_x (S := S42) (x := x0 + i) (y := top) (w := wide) (h := high) (f := bst pv) hw1 (by omega) hh (by omega) (fun k a b => ⟨by rw [t42]; exact k6 _ _ _ _ a hh (by omega) (by omega) ht1 ht2 (Or.inr ⟨rfl, Or.inr ⟨rfl, Or.inl b⟩⟩), by rw [t42]; exact k6 _ _ _ _ (by omega) hh (by omega) (by omega) ht1 ht2 (Or.inr ⟨rfl, Or.inr ⟨rfl, Or.inl (by omega)⟩⟩)⟩) (fun k a b => ⟨bl _ _ _ _ a hh (by omega) (by omega), bl _ _ _ _ (by omega) hh (by omega) (by omega)⟩)
    have eA := bestAcross_x (S := S42) (x := x0 + i) (y := top) (w := wide) (h := high) (f := bst pv) hw1 (by omega) hh (by omega) (fun k a b => ⟨by rw [t42]; exact k6 _ _ _ _ hw1 a (by omega) (by omega) ht1 (by omega) (Or.inl b), by rw [t42]; exact k6 _ _ _ _ hw1 (by omega) (by omega) (by omega) (by omega) (by omega) (Or.inl (by omega))⟩) (fun k a b => ⟨bl _ _ _ _ hw1 a (by omega) (by omega), bl _ _ _ _ hw1 (by omega) (by omega) (by omega)⟩)
    have hsu : ∀ s, s < 32 → bt (aI_ S 30 (8 * (high - 1) + (wide - 1))) s = (decide (s < n) && ofSz sw sh tn s wide high) := hX.2.2 wide high hw1 (by omega) hh (by omega)
    have eP : ((if aI_ S 30 (8 * (high - 1) + (wide - 1)) = 0 then some 0 else b1 (rI_ S42 32 8 (nI (x0 + i))) fun x47 => b1 (fX6_bestPipe S42 (aI_ S 30 (8 * (high - 1) + (wide - 1))) x47) fun x48 => some x48) : Option Int32) = some (nI (pv (x0 + i) top wide high)) := by
      have e := bestPipe_x (S := S42) (m := aI_ S42 32 (x0 + i)) (su := aI_ S 30 (8 * (high - 1) + (wide - 1))) (x := x0 + i) (y := top) (w := wide) (h := high) hX42.1 sb hb hvc (by omega) (by omega) hw1 hh (by rw [b42]; exact m3) hsu
      by_cases c : aI_ S 30 (8 * (high - 1) + (wide - 1)) = 0
      · rw [if_pos c, hpv]
        have : pvl gr vc vw n sw sh pr ls tn (x0 + i) top wide high = 0 := by
          have hle : pvl gr vc vw n sw sh pr ls tn (x0 + i) top wide high ≤ 0 := mx0_le (fun s hs => by
            have q := hsu s (by have := sb.1; omega)
            rw [c, b_0, show decide (s < n) = true by simp [hs], Bool.true_and] at q
            unfold brs
            rw [← q]
            simp)
          omega
        rw [this]; rfl
      · rw [if_neg c, rI_n (by omega) (by omega), b1_s, e, b1_s, hpv]
    have ev := bst_eq pv (x := x0 + i) (y := top) (w := wide) (h := high) hw1 hh
    have lv := bl (x0 + i) top wide high hw1 hh (by omega) (by omega)
    have p1 : pl (x0 + i) top wide high < 4096 := by unfold pl; omega
    left
    refine ⟨(nI (pl (x0 + i) top wide high + 1), nI (x0 + i + 1), pA_ S42 33 (pl (x0 + i) top wide high) (nI (bst pv (x0 + i) top wide high))), ?_, ?_, rfl, ?_, fun l h1 h2 => ?_, fun l h1 h2 => ?_, fun x y w h a1 a2 a3 a4 a5 a6 hd => ?_⟩
    · have ei : nI (x0 + i) + nI wide - 1 = nI (x0 + i + wide - 1) := by
        rw [nI_add]; exact nI_sub (b := 1) (by omega)
      unfold bX6_weighBand_89
      rw [k1, k2, ei, nI_add, nI_add, if_neg (nI_nlt (by omega) (by omega)), rI_n (by omega) (by omega), b1_s, rI_n (by omega) (by omega), b1_s, wI_n (by omega) (by omega), b1_s, ← hS42, eP, b1_s, eD, b1_s, eA, b1_s]
      have x1 : max (mx1 (fun k => bst pv (x0 + i) top k high + bst pv (x0 + i + k) top (wide - k) high) wide) (mx1 (fun k => bst pv (x0 + i) top wide k + bst pv (x0 + i) (top + k) wide (high - k)) high) ≤ 128000 := by omega
      have x2 : pv (x0 + i) top wide high ≤ 128000 := by omega
      rw [mmax_n (by omega) (by omega), mmax_n (by omega) (by omega), ← ev, wI_n p1 (by omega), b1_s, nI_1, nI_1]
    · show nI (pl (x0 + i) top wide high + 1) = nI (pl (x0 + (i + 1)) top wide high)
      exact congrArg nI (by unfold pl; omega)
    · exact Fr.pA (by simp) (k3.trans (f42.mono (by intro a b z; simp at z ⊢; omega)))
    · simp only [gI_pI, gI_pL, gI_pA, gI_pB, gI_pR, gI_pW, gL_pI, gL_pL, gL_pA, gL_pB, gL_pR, gL_pW, aI_pI, aI_pL, aI_pA, aI_pB, aI_pR, aI_pW, aL_pI, aL_pL, aL_pA, aL_pB, aL_pR, aL_pW, gR_pI, gR_pL, gR_pA, gR_pB, gR_pR, gR_pW, Nat.reduceEqDiff, false_and, if_false]
      by_cases z : l = x0 + i
      · rw [z, b42]; exact m3
      · rw [hS42, aI_pA, if_neg (by omega)]; exact k4 l h1 (by omega)
    · simp only [gI_pI, gI_pL, gI_pA, gI_pB, gI_pR, gI_pW, gL_pI, gL_pL, gL_pA, gL_pB, gL_pR, gL_pW, aI_pI, aI_pL, aI_pA, aI_pB, aI_pR, aI_pW, aL_pI, aL_pL, aL_pA, aL_pB, aL_pR, aL_pW, gR_pI, gR_pL, gR_pA, gR_pB, gR_pR, gR_pW, Nat.reduceEqDiff, false_and, if_false]
      rw [hS42, aI_pA, if_neg (by omega)]
      exact k5 l (by omega) h2
    · simp only [gI_pI, gI_pL, gI_pA, gI_pB, gI_pR, gI_pW, gL_pI, gL_pL, gL_pA, gL_pB, gL_pR, gL_pW, aI_pI, aI_pL, aI_pA, aI_pB, aI_pR, aI_pW, aL_pI, aL_pL, aL_pA, aL_pB, aL_pR, aL_pW, gR_pI, gR_pL, gR_pA, gR_pB, gR_pR, gR_pW, true_and]
      by_cases z : x = x0 + i ∧ y = top ∧ w = wide ∧ h = high
      · obtain ⟨rfl, rfl, rfl, rfl⟩ := z
        rw [if_pos rfl]
      · have ne : pl x y w h ≠ pl (x0 + i) top wide high := fun q => z (pl_inj (by omega) (by omega) a1 a2 (by omega) (by omega) (by omega) hw1 hh (by omega) q)
        rw [if_neg ne, t42]
        refine k6 x y w h a1 a2 a3 a4 a5 a6 ?_
        unfold Dn at hd ⊢
        omega
  · refine ⟨s.2.2, ?_, k3, fun l h1 h2 => k4 l h1 (by omega), fun x y w h a1 a2 a3 a4 a5 a6 hd => ?_⟩
    · unfold bX6_weighBand_89
      rw [k2, nI_add, nI_add, if_pos (nI_lt (by omega) (by omega))]
    · refine k6 x y w h a1 a2 a3 a4 a5 a6 ?_
      unfold Dn at hd ⊢
      omega
theorem band_x {S : St} {top high : Nat} {pv : Nat → Nat → Nat → Nat → Nat} (hpv : pv = pvl gr vc vw n sw sh pr ls tn) (hX : XW gr vc vw n sw sh pr ls tn W H S) (sb : ShB n sw sh pr ls) (hb : GrB gr) (hvc : vc ≤ 4) (hW : W ≤ 8) (hH : H ≤ 8) (hx : x0 + w0 ≤ W) (hy : y0 + h0 ≤ H) (ht1 : y0 ≤ top) (ht2 : top + high ≤ y0 + h0) (hh : 1 ≤ high) (hT : Tb pv x0 y0 w0 h0 S (Dn high top 1 x0)) :
    ∃ S', fX6_weighBand S (nI x0) (nI w0) (nI top) (nI high) = some S' ∧ Fr pBd S S' ∧ Tb pv x0 y0 w0 h0 S' (Dn high (top + 1) 1 x0) := by
  unfold fX6_weighBand
  obtain ⟨S1, e1, f1, c1⟩ := band1 (top := top) (high := high) hX hW hH hx (by omega)
  rw [e1]
  simp only [b1_s, bs_l, bs_r, oI_e, oL_e, oR_e]
  have f1' : Fr pBd S S1 := f1.mono (by intro a b z; simp [pBd] at z ⊢; omega)
  obtain ⟨S', e, q1, q2⟩ := lp_inv (body := fun w30 : Int32 × St => bX6_weighBand_51 (nI x0) (nI w0) (nI top) (nI high) w30.1 w30.2) (fun i s => s.1 = nI (i + 1) ∧ Fr pBd S s.2 ∧ (∀ c, x0 ≤ c → c < x0 + w0 → MkB gr vc vw c top 1 high (aI_ s.2 31 c)) ∧ (∀ l, x0 ≤ l → l + (i + 1) ≤ x0 + w0 → MkB gr vc vw l top (max 1 (i + 1 - 1)) high (aI_ s.2 32 l)) ∧ Tb pv x0 y0 w0 h0 s.2 (Dn high top (i + 1) x0)) (fun r => Fr pBd S r ∧ Tb pv x0 y0 w0 h0 r (Dn high (top + 1) 1 x0)) w0 (m := 5000) (s := (1, S1)) (by omega) ⟨rfl, f1', fun c a b => (c1 c a b).1, fun l a b => (c1 l a (by omega)).2, fun x y w h a1 a2 a3 a4 a5 a6 hd => by rw [f1.aI (by simp)]; exact hT x y w h a1 a2 a3 a4 a5 a6 hd⟩
    (fun i s hi ⟨k1, k2, k3, k4, k5⟩ => by
      have hX' := hX.fr k2
      obtain ⟨S2, e2, f2, r1, r2⟩ := band3 (S := s.2) (wide := i + 1) hpv hX' sb hb hvc hW hH hx hy ht1 ht2 hh (by omega) (by omega) k3 k4 k5
      left
      refine ⟨(nI (i + 1 + 1), S2), ?_, rfl, k2.trans (f2.mono (by intro a b z; simp [pBd] at z ⊢; omega)), fun c a b => by rw [f2.aI (by simp)]; exact k3 c a b, fun l a b => ?_, r2⟩
      · have es : (nI high - 1) * 8 + (nI (i + 1) - 1) = nI (8 * (high - 1) + (i + 1 - 1)) := by
          have a1 : nI high - 1 = nI (high - 1) := nI_sub (b := 1) hh
          have a2 : nI (i + 1) - 1 = nI (i + 1 - 1) := nI_sub (b := 1) (by omega)
          have a3 : nI (high - 1) * 8 = nI ((high - 1) * 8) := nI_mul _ 8
          rw [a1, a2, a3, nI_add]; exact congrArg nI (by omega)
        have ep : ((nI (i + 1) - 1) * 512 + (nI high - 1) * 64) + (nI top * 8 + nI x0) = nI (pl x0 top (i + 1) high) := by
          have a1 : nI high - 1 = nI (high - 1) := nI_sub (b := 1) hh
          have a2 : nI (i + 1) - 1 = nI (i + 1 - 1) := nI_sub (b := 1) (by omega)
          have a3 : nI (high - 1) * 64 = nI ((high - 1) * 64) := nI_mul _ 64
          have a4 : nI (i + 1 - 1) * 512 = nI ((i + 1 - 1) * 512) := nI_mul _ 512
          have a5 : nI top * 8 = nI (top * 8) := nI_mul _ 8
          rw [a1, a2, a3, a4, a5, nI_add, nI_add, nI_add]; exact congrArg nI (by unfold pl; omega)
        unfold bX6_weighBand_51 fX6_placeOf fX11_squareAt
        rw [k1, if_neg (nI_nlt (by omega) (by omega)), es, b1_s, rI_n (by omega) (by omega), b1_s, b1_s, ep, b1_s, e2, b1_s, nI_1]
      · rw [show max 1 (i + 1 + 1 - 1) = i + 1 by omega]
        exact r1 l a (by omega))
    (fun s ⟨k1, k2, k3, k4, k5⟩ => ⟨s.2, by
      unfold bX6_weighBand_51
      rw [k1, if_pos (nI_lt (by omega) (by omega))], k2, fun x y w h a1 a2 a3 a4 a5 a6 hd => by
      refine k5 x y w h a1 a2 a3 a4 a5 a6 ?_
      unfold Dn at hd ⊢
      omega⟩)
  rw [e]
  exact ⟨S', rfl, q1, q2⟩
theorem weighed {S : St} {pv : Nat → Nat → Nat → Nat → Nat} (hpv : pv = pvl gr vc vw n sw sh pr ls tn) (hX : XW gr vc vw n sw sh pr ls tn W H S) (sb : ShB n sw sh pr ls) (hb : GrB gr) (hvc : vc ≤ 4) (hW : W ≤ 8) (hH : H ≤ 8) (hx : x0 + w0 ≤ W) (hy : y0 + h0 ≤ H) :
    ∃ S', lp (fun w23 : Int32 × St => bX6_weigh_11 (nI x0) (nI y0) (nI w0) (nI h0) w23.1 w23.2) 5000 (1, S) = some S' ∧ Fr pBd S S' ∧ Tb pv x0 y0 w0 h0 S' (fun _ _ _ _ => True) := by
  obtain ⟨S', e, q1, q2⟩ := lp_inv (body := fun w23 : Int32 × St => bX6_weigh_11 (nI x0) (nI y0) (nI w0) (nI h0) w23.1 w23.2) (fun i s => s.1 = nI (i + 1) ∧ Fr pBd S s.2 ∧ Tb pv x0 y0 w0 h0 s.2 (Dn (i + 1) y0 1 x0)) (fun r => Fr pBd S r ∧ Tb pv x0 y0 w0 h0 r (fun _ _ _ _ => True)) h0 (m := 5000) (s := (1, S)) (by omega) ⟨rfl, Fr.refl _ _, fun x y w h a1 a2 a3 a4 a5 a6 hd => by unfold Dn at hd; omega⟩
    (fun i s hi ⟨k1, k2, k3⟩ => by
      obtain ⟨S2, e2, r1, r2⟩ := lp_inv (body := fun w26 : Int32 × St => bX6_weigh_21 (nI x0) (nI y0) (nI w0) (nI h0) (nI (i + 1)) w26.1 w26.2) (fun t v => v.1 = nI (y0 + t) ∧ Fr pBd S v.2 ∧ Tb pv x0 y0 w0 h0 v.2 (Dn (i + 1) (y0 + t) 1 x0)) (fun r => Fr pBd S r ∧ Tb pv x0 y0 w0 h0 r (Dn (i + 1 + 1) y0 1 x0)) (h0 + 1 - (i + 1)) (m := 5000) (s := (nI y0, s.2)) (by omega) ⟨rfl, k2, k3⟩
        (fun t v ht ⟨l1, l2, l3⟩ => by
          obtain ⟨S3, e3, u1, u2⟩ := band_x (S := v.2) (top := y0 + t) (high := i + 1) hpv (hX.fr l2) sb hb hvc hW hH hx hy (by omega) (by omega) (by omega) l3
          left
          refine ⟨(nI (y0 + t + 1), S3), ?_, rfl, l2.trans u1, u2⟩
          unfold bX6_weigh_21
          rw [l1, nI_add, nI_add, if_neg (nI_nlt (by omega) (by omega)), e3, b1_s, nI_1])
        (fun v ⟨l1, l2, l3⟩ => ⟨v.2, by
          unfold bX6_weigh_21
          rw [l1, nI_add, nI_add, if_pos (nI_lt (by omega) (by omega))], l2, fun x y w h a1 a2 a3 a4 a5 a6 hd => by
          refine l3 x y w h a1 a2 a3 a4 a5 a6 ?_
          unfold Dn at hd ⊢
          omega⟩)
      left
      refine ⟨(nI (i + 1 + 1), S2), ?_, rfl, r1, r2⟩
      unfold bX6_weigh_11
      rw [k1, if_neg (nI_nlt (by omega) (by omega)), e2, b1_s, nI_1])
    (fun s ⟨k1, k2, k3⟩ => ⟨s.2, by
      unfold bX6_weigh_11
      rw [k1, if_pos (nI_lt (by omega) (by omega))], k2, fun x y w h a1 a2 a3 a4 a5 a6 _ => by
      refine k3 x y w h a1 a2 a3 a4 a5 a6 ?_
      unfold Dn
      omega⟩)
  exact ⟨S', e, q1, q2⟩
def pSaw (a _b : Nat) : Bool := decide (29 ≤ a) && decide (a ≤ 33)
/-- the class's weighing of a block -/
theorem weigh_x {S : St} {cr : Nat → Bool} {pv : Nat → Nat → Nat → Nat → Nat} (hpv : pv = pvl gr vc vw n sw sh pr ls tn) (hbx : BX S 1 W H cr gr) (hs : Shp S 21 5 22 n sw sh pr ls tn) (sb : ShB n sw sh pr ls) (hb : GrB gr) (h3 : gI_ S 27 3 = nI vc) (hvc : vc ≤ 4) (hv : ∀ v, v < vc → ∀ q, q < 64 → lt_ (aL_ S 28 v) q = vw v q) (hW : W ≤ 8) (hH : H ≤ 8) (hx : x0 + w0 ≤ W) (hy : y0 + h0 ≤ H) (hw1 : 1 ≤ w0) (hh1 : 1 ≤ h0) :
    ∃ S', fX6_weigh S (nI x0) (nI y0) (nI w0) (nI h0) = some (nI (bst pv x0 y0 w0 h0), S') ∧ Fr pSaw S S' ∧ XW gr vc vw n sw sh pr ls tn W H S' ∧ Tb pv x0 y0 w0 h0 S' (fun _ _ _ _ => True) := by
  obtain ⟨S1, e1, z1, f1⟩ := marks_x hbx hb hW hH h3 hvc hv
  have hs1 : Shp S1 21 5 22 n sw sh pr ls tn := hs.fr f1 rfl (fun k j z1 z2 => by simp; omega)
  obtain ⟨S2, e2, z2, f2⟩ := sort_x hs1 sb
  have hX : XW gr vc vw n sw sh pr ls tn W H S2 := ⟨hs1.fr f2 rfl (fun k j z1 z2 => by simp; omega), fun y hy x hx i hi => by rw [f2.aI (by simp)]; exact z1 y hy x hx i hi, z2⟩
  obtain ⟨S3, e3, f3, t3⟩ := weighed hpv hX sb hb hvc hW hH hx hy
  have ep : ((nI w0 - 1) * 512 + (nI h0 - 1) * 64) + (nI y0 * 8 + nI x0) = nI (pl x0 y0 w0 h0) := by
    have a1 : nI h0 - 1 = nI (h0 - 1) := nI_sub (b := 1) hh1
    have a2 : nI w0 - 1 = nI (w0 - 1) := nI_sub (b := 1) hw1
    have a3 : nI (h0 - 1) * 64 = nI ((h0 - 1) * 64) := nI_mul _ 64
    have a4 : nI (w0 - 1) * 512 = nI ((w0 - 1) * 512) := nI_mul _ 512
    have a5 : nI y0 * 8 = nI (y0 * 8) := nI_mul _ 8
    rw [a1, a2, a3, a4, a5, nI_add, nI_add, nI_add]; exact congrArg nI (by unfold pl; omega)
  refine ⟨S3, ?_, Fr.trans (f1.mono (by intro a b z; simp [pSaw] at z ⊢; omega)) (Fr.trans (f2.mono (by intro a b z; simp [pSaw] at z ⊢; omega)) (f3.mono (by intro a b z; simp [pSaw, pBd] at z ⊢; omega))), hX.fr f3, t3⟩
  unfold fX6_weigh fX6_placeOf fX11_squareAt
  rw [e1, b1_s, e2, b1_s, e3, b1_s, b1_s, ep, b1_s, rI_n (by unfold pl; omega) (by omega), b1_s, t3 x0 y0 w0 h0 hw1 hh1 (by omega) (by omega) (by omega) (by omega) trivial]
end WEIGH
