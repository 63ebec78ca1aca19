/-! the saw: the tally of a plan -/
theorem pk_0 : ∀ a, a < 64 → ∀ b, b < 64 → (nI (64 * a + b) &&& 7 : Int32) = nI (b % 8) := by decide +kernel
theorem pk_3 : ∀ a, a < 64 → ∀ b, b < 64 → ((nI (64 * a + b) >>> ((3 : Int32) &&& 31)) &&& 7 : Int32) = nI (b / 8) := by decide +kernel
theorem pk_6 : ∀ a, a < 64 → ∀ b, b < 64 → ((nI (64 * a + b) >>> ((6 : Int32) &&& 31)) &&& 7 : Int32) = nI (a % 8) := by decide +kernel
theorem pk_9 : ∀ a, a < 64 → ∀ b, b < 64 → ((nI (64 * a + b) >>> ((9 : Int32) &&& 31)) &&& 7 : Int32) = nI (a / 8) := by decide +kernel
abbrev Bk := Nat × Nat × Nat × Nat
abbrev Bk.x (b : Bk) : Nat := b.1
abbrev Bk.y (b : Bk) : Nat := b.2.1
abbrev Bk.w (b : Bk) : Nat := b.2.2.1
abbrev Bk.h (b : Bk) : Nat := b.2.2.2
abbrev Dc := Option Nat ⊕ (Nat ⊕ Nat)
def dcc : Dc → Int32
  | .inl none => -5
  | .inl (some s) => nI s
  | .inr (.inl k) => nI (100 + k)
  | .inr (.inr k) => nI (200 + k)
def ddc (f : Nat → Nat → Nat → Nat → Nat) (bv : Nat → Nat) (n x y w h : Nat) : Dc :=
  if f x y w h = 0 then .inl none else if fsh bv n (f x y w h) < n then .inl (some (fsh bv n (f x y w h))) else if fdn f x y w h < w - 1 then .inr (.inl (1 + fdn f x y w h)) else .inr (.inr (1 + fac f x y w h))
theorem dd_dc (f : Nat → Nat → Nat → Nat → Nat) (bv : Nat → Nat) (n x y w h : Nat) : dd f bv n x y w h = dcc (ddc f bv n x y w h) := by
  unfold dd ddc
  by_cases c1 : f x y w h = 0
  · rw [if_pos c1, if_pos c1]; rfl
  · rw [if_neg c1, if_neg c1]
    by_cases c2 : fsh bv n (f x y w h) < n
    · rw [if_pos c2, if_pos c2]; rfl
    · rw [if_neg c2, if_neg c2]
      by_cases c3 : fdn f x y w h < w - 1
      · rw [if_pos c3, if_pos c3]; rfl
      · rw [if_neg c3, if_neg c3]; rfl
/-- what a deed may be for a block -/
def Dok (n : Nat) (b : Bk) : Dc → Prop
  | .inl none => True
  | .inl (some s) => s < n
  | .inr (.inl k) => 1 ≤ k ∧ k < b.w
  | .inr (.inr k) => 1 ≤ k ∧ k < b.h
theorem ddc_ok {pv : Nat → Nat → Nat → Nat → Nat} {bv : Nat → Nat} {n : Nat} {b : Bk} (hpv : pv b.x b.y b.w b.h = mx0 bv n) (hw : 1 ≤ b.w) (hh : 1 ≤ b.h) : Dok n b (ddc (bst pv) bv n b.x b.y b.w b.h) := by
  unfold ddc
  by_cases c1 : bst pv b.x b.y b.w b.h = 0
  · rw [if_pos c1]; trivial
  · rw [if_neg c1]
    by_cases c2 : fsh bv n (bst pv b.x b.y b.w b.h) < n
    · rw [if_pos c2]; exact c2
    · rw [if_neg c2]
      by_cases c3 : fdn (bst pv) b.x b.y b.w b.h < b.w - 1
      · rw [if_pos c3]; show 1 ≤ _ ∧ _; omega
      · rw [if_neg c3]
        have := fac_lt hpv hw hh c1 c2 c3
        show 1 ≤ _ ∧ _; omega
abbrev Tl := Nat × Nat × Nat × (Nat → Nat)
abbrev Tl.p (t : Tl) : Nat := t.1
abbrev Tl.c (t : Tl) : Nat := t.2.1
abbrev Tl.w (t : Tl) : Nat := t.2.2.1
abbrev Tl.q (t : Tl) : Nat → Nat := t.2.2.2
def nx (d : Dc) (b : Bk) (L : List Bk) (t : Tl) : List Bk × Tl :=
  match d with
  | .inl none => (L, ⟨t.p, t.c, t.w + b.w * b.h, t.q⟩)
  | .inl (some s) => (L, ⟨t.p + 1, t.c, t.w, fun j => if j = s then t.q j + 1 else t.q j⟩)
  | .inr (.inl k) => (⟨b.x + k, b.y, b.w - k, b.h⟩ :: ⟨b.x, b.y, k, b.h⟩ :: L, ⟨t.p, t.c + 1, t.w, t.q⟩)
  | .inr (.inr k) => (⟨b.x, b.y + k, b.w, b.h - k⟩ :: ⟨b.x, b.y, b.w, k⟩ :: L, ⟨t.p, t.c + 1, t.w, t.q⟩)
def tal (D : Bk → Dc) : Nat → List Bk → Tl → Tl
  | 0, _, t => t
  | _ + 1, [], t => t
  | m + 1, b :: L, t => tal D m (nx (D b) b L t).1 (nx (D b) b L t).2
theorem tal_nil (D : Bk → Dc) (m : Nat) (t : Tl) : tal D m [] t = t := by cases m <;> rfl
def okb (W H : Nat) (b : Bk) : Prop := 1 ≤ b.w ∧ 1 ≤ b.h ∧ b.x + b.w ≤ W ∧ b.y + b.h ≤ H
def okl (W H : Nat) : List Bk → Prop
  | [] => True
  | b :: L => okb W H b ∧ okl W H L
def arl : List Bk → Nat
  | [] => 0
  | b :: L => b.w * b.h + arl L
def mul_ : List Bk → Nat
  | [] => 0
  | b :: L => (2 * (b.w * b.h) - 1) + mul_ L
theorem ar1 {W H : Nat} {b : Bk} (h : okb W H b) : 1 ≤ b.w * b.h := Nat.mul_pos h.1 h.2.1
theorem len_ar {W H : Nat} : ∀ L : List Bk, okl W H L → L.length ≤ arl L
  | [], _ => Nat.le_refl _
  | b :: L, h => by
    have := len_ar L h.2
    have := ar1 h.1
    simp only [List.length_cons, arl]; omega
theorem nx_ok {n W H : Nat} {b : Bk} {L : List Bk} {d : Dc} {t : Tl} (h : okl W H (b :: L)) (hd : Dok n b d) : okl W H (nx d b L t).1 ∧ arl (nx d b L t).1 ≤ arl (b :: L) ∧ mul_ (nx d b L t).1 + 1 ≤ mul_ (b :: L) := by
  obtain ⟨x, y, w, v⟩ := b
  obtain ⟨⟨h1, h2, h3, h4⟩, h5⟩ : (1 ≤ w ∧ 1 ≤ v ∧ x + w ≤ W ∧ y + v ≤ H) ∧ okl W H L := h
  have ha : 1 ≤ w * v := Nat.mul_pos h1 h2
  rcases d with (_ | s) | k | k
  · exact ⟨h5, by simp only [nx, arl, Bk.x, Bk.y, Bk.w, Bk.h]; omega, by simp only [nx, mul_, Bk.x, Bk.y, Bk.w, Bk.h]; omega⟩
  · exact ⟨h5, by simp only [nx, arl, Bk.x, Bk.y, Bk.w, Bk.h]; omega, by simp only [nx, mul_, Bk.x, Bk.y, Bk.w, Bk.h]; omega⟩
  ·
    obtain ⟨k1, k2⟩ : 1 ≤ k ∧ k < w := hd
    have e : (w - k) * v + k * v = w * v := by rw [← Nat.add_mul]; congr 1; omega
    have p1 : 1 ≤ (w - k) * v := Nat.mul_pos (by omega) h2
    have p2 : 1 ≤ k * v := Nat.mul_pos k1 h2
    refine ⟨⟨⟨?_, ?_, ?_, ?_⟩, ⟨?_, ?_, ?_, ?_⟩, h5⟩, by simp only [nx, arl, Bk.x, Bk.y, Bk.w, Bk.h]; omega, by simp only [nx, mul_, Bk.x, Bk.y, Bk.w, Bk.h]; omega⟩ <;> simp only [Bk.x, Bk.y, Bk.w, Bk.h] <;> omega
  ·
    obtain ⟨k1, k2⟩ : 1 ≤ k ∧ k < v := hd
    have e : w * (v - k) + w * k = w * v := by rw [← Nat.mul_add]; congr 1; omega
    have p1 : 1 ≤ w * (v - k) := Nat.mul_pos h1 (by omega)
    have p2 : 1 ≤ w * k := Nat.mul_pos h1 k1
    refine ⟨⟨⟨?_, ?_, ?_, ?_⟩, ⟨?_, ?_, ?_, ?_⟩, h5⟩, by simp only [nx, arl, Bk.x, Bk.y, Bk.w, Bk.h]; omega, by simp only [nx, mul_, Bk.x, Bk.y, Bk.w, Bk.h]; omega⟩ <;> simp only [Bk.x, Bk.y, Bk.w, Bk.h] <;> omega
/-- the waiting blocks in a row -/
def Skk (cd : Bk → Nat) (k : Nat) (S : St) : List Bk → Prop
  | [] => True
  | b :: L => aI_ S k L.length = nI (cd b) ∧ Skk cd k S L
theorem Skk.cong {cd : Bk → Nat} {k : Nat} {S S' : St} : ∀ {L : List Bk}, Skk cd k S L → (∀ i, i < L.length → aI_ S' k i = aI_ S k i) → Skk cd k S' L
  | [], _, _ => trivial
  | b :: L, h, hc => ⟨by rw [hc _ (by simp)]; exact h.1, Skk.cong h.2 (fun i hi => hc i (by simp; omega))⟩
def plb (b : Bk) : Nat := pl b.x b.y b.w b.h
def blb (b : Bk) : Nat := bl b.x b.y b.w b.h
def CtX (S : St) (t : Tl) : Prop := gI_ S 27 11 = nI t.p ∧ gI_ S 27 12 = nI t.c ∧ gI_ S 27 13 = nI t.w ∧ ∀ s, s < 8 → aI_ S 35 s = nI (t.q s)
def pTal (a b : Nat) : Bool := a == 34 || a == 35 || (a == 27 && decide (11 ≤ b))
theorem m5_ne {a : Nat} (h : a < 2 ^ 31) : ¬ nI a = -5 := by
  intro q
  have := nI_pos h
  rw [q] at this
  exact this (by decide)
theorem pl_dec {W H : Nat} {b : Bk} (h : okb W H b) (hW : W ≤ 8) (hH : H ≤ 8) : (nI (plb b) &&& 7 : Int32) = nI b.x ∧ ((nI (plb b) >>> ((3 : Int32) &&& 31)) &&& 7 : Int32) = nI b.y ∧ ((nI (plb b) >>> ((6 : Int32) &&& 31)) &&& 7 : Int32) + 1 = nI b.h ∧ ((nI (plb b) >>> ((9 : Int32) &&& 31)) &&& 7 : Int32) + 1 = nI b.w := by
  obtain ⟨h1, h2, h3, h4⟩ := h
  have e : plb b = 64 * (8 * (b.w - 1) + (b.h - 1)) + (8 * b.y + b.x) := by unfold plb pl; omega
  have la : 8 * (b.w - 1) + (b.h - 1) < 64 := by omega
  have lb : 8 * b.y + b.x < 64 := by omega
  rw [e, pk_0 _ la _ lb, pk_3 _ la _ lb, pk_6 _ la _ lb, pk_9 _ la _ lb]
  refine ⟨congrArg nI (by omega), congrArg nI (by omega), ?_, ?_⟩
  · show _ + nI 1 = _; rw [nI_add]; exact congrArg nI (by omega)
  · show _ + nI 1 = _; rw [nI_add]; exact congrArg nI (by omega)
theorem tb_x {n W H : Nat} {S : St} {b : Bk} {L : List Bk} {t : Tl} {d : Dc} (hd : fX6_decide S (nI b.x) (nI b.y) (nI b.w) (nI b.h) = some (dcc d)) (hk : okb W H b) (hW : W ≤ 8) (hH : H ≤ 8) (hn : n ≤ 8) (dk : Dok n b d) (st : Skk plb 34 S L) (ct : CtX S t) (hl : (nx d b L t).1.length ≤ 64) : ∃ S', fX6_tallyBlock S (nI (plb b)) (nI L.length) = some (nI (nx d b L t).1.length, S') ∧ Skk plb 34 S' (nx d b L t).1 ∧ CtX S' (nx d b L t).2 ∧ Fr pTal S S' := by
  obtain ⟨d1, d2, d3, d4⟩ := pl_dec hk hW hH
  obtain ⟨k1, k2, k3, k4⟩ := hk
  obtain ⟨c1, c2, c3, c4⟩ := ct
  unfold fX6_tallyBlock
  rw [b1_s, b1_s, b1_s, d1, d2, d3, d4, hd, b1_s]
  rcases d with (_ | s) | k | k
  ·
    have e5 : dcc (.inl none) = -5 := rfl
    rw [if_pos e5, oI_e, b1_s, c3, nI_mul, nI_add]
    exact ⟨_, rfl, st.cong (fun i _ => rfl), ⟨by simp only [gI_pI, gI_pL, gI_pA, gI_pB, gI_pR, gI_pW, gL_pI, gL_pL, gL_pA, gL_pB, gL_pR, gL_pW, aI_pI, aI_pL, aI_pA, aI_pB, aI_pR, aI_pW, aL_pI, aL_pL, aL_pA, aL_pB, aL_pR, aL_pW, gR_pI, gR_pL, gR_pA, gR_pB, gR_pR, gR_pW]; simpa [nx] using c1, by simp only [gI_pI, gI_pL, gI_pA, gI_pB, gI_pR, gI_pW, gL_pI, gL_pL, gL_pA, gL_pB, gL_pR, gL_pW, aI_pI, aI_pL, aI_pA, aI_pB, aI_pR, aI_pW, aL_pI, aL_pL, aL_pA, aL_pB, aL_pR, aL_pW, gR_pI, gR_pL, gR_pA, gR_pB, gR_pR, gR_pW]; simpa [nx] using c2, by simp only [gI_pI, gI_pL, gI_pA, gI_pB, gI_pR, gI_pW, gL_pI, gL_pL, gL_pA, gL_pB, gL_pR, gL_pW, aI_pI, aI_pL, aI_pA, aI_pB, aI_pR, aI_pW, aL_pI, aL_pL, aL_pA, aL_pB, aL_pR, aL_pW, gR_pI, gR_pL, gR_pA, gR_pB, gR_pR, gR_pW]; simp [nx], fun s hs => c4 s hs⟩, Fr.pI rfl (Fr.refl _ _)⟩
  ·
    have hs : s < n := dk
    have e5 : dcc (.inl (some s)) = nI s := rfl
    have u1 : ¬ (100 : Int32) ≤ nI s := nI_ge (show s < 100 by omega) (by decide)
    rw [e5, if_neg (m5_ne (by omega)), if_neg u1, oI_e, b1_s, rI_n (by omega) (by omega), b1_s, wI_n (by omega) (by omega), b1_s]
    refine ⟨_, rfl, st.cong (fun i _ => by simp [gI_pI, gI_pL, gI_pA, gI_pB, gI_pR, gI_pW, gL_pI, gL_pL, gL_pA, gL_pB, gL_pR, gL_pW, aI_pI, aI_pL, aI_pA, aI_pB, aI_pR, aI_pW, aL_pI, aL_pL, aL_pA, aL_pB, aL_pR, aL_pW, gR_pI, gR_pL, gR_pA, gR_pB, gR_pR, gR_pW]), ⟨?_, ?_, ?_, fun j hj => ?_⟩, Fr.pA rfl (Fr.pI rfl (Fr.refl _ _))⟩
    · simp only [gI_pI, gI_pL, gI_pA, gI_pB, gI_pR, gI_pW, gL_pI, gL_pL, gL_pA, gL_pB, gL_pR, gL_pW, aI_pI, aI_pL, aI_pA, aI_pB, aI_pR, aI_pW, aL_pI, aL_pL, aL_pA, aL_pB, aL_pR, aL_pW, gR_pI, gR_pL, gR_pA, gR_pB, gR_pR, gR_pW]; simp only [and_self, if_true]; rw [c1]; exact nI_add _ 1
    · simp only [gI_pI, gI_pL, gI_pA, gI_pB, gI_pR, gI_pW, gL_pI, gL_pL, gL_pA, gL_pB, gL_pR, gL_pW, aI_pI, aI_pL, aI_pA, aI_pB, aI_pR, aI_pW, aL_pI, aL_pL, aL_pA, aL_pB, aL_pR, aL_pW, gR_pI, gR_pL, gR_pA, gR_pB, gR_pR, gR_pW]; simpa [nx] using c2
    · simp only [gI_pI, gI_pL, gI_pA, gI_pB, gI_pR, gI_pW, gL_pI, gL_pL, gL_pA, gL_pB, gL_pR, gL_pW, aI_pI, aI_pL, aI_pA, aI_pB, aI_pR, aI_pW, aL_pI, aL_pL, aL_pA, aL_pB, aL_pR, aL_pW, gR_pI, gR_pL, gR_pA, gR_pB, gR_pR, gR_pW]; simpa [nx] using c3
    · simp only [gI_pI, gI_pL, gI_pA, gI_pB, gI_pR, gI_pW, gL_pI, gL_pL, gL_pA, gL_pB, gL_pR, gL_pW, aI_pI, aI_pL, aI_pA, aI_pB, aI_pR, aI_pW, aL_pI, aL_pL, aL_pA, aL_pB, aL_pR, aL_pW, gR_pI, gR_pL, gR_pA, gR_pB, gR_pR, gR_pW, true_and]
      show _ = nI (if j = s then t.q j + 1 else t.q j)
      by_cases z : j = s
      · rw [if_pos z, if_pos z, ← z, c4 j hj]; exact nI_add _ 1
      · rw [if_neg z, if_neg z, c4 j hj]
  ·
    obtain ⟨q1, q2⟩ : 1 ≤ k ∧ k < b.w := dk
    have e5 : dcc (.inr (.inl k)) = nI (100 + k) := rfl
    have u1 : (100 : Int32) ≤ nI (100 + k) := nI_le (show 100 ≤ 100 + k by omega) (by omega)
    have u2 : ¬ (200 : Int32) ≤ nI (100 + k) := nI_ge (show 100 + k < 200 by omega) (by decide)
    have hl' : L.length + 2 ≤ 64 := hl
    have u3 : nI (L.length + 2) ≤ (64 : Int32) := nI_le hl' (by decide)
    have a1 : nI L.length + 2 = nI (L.length + 2) := nI_add _ 2
    have a2 : nI L.length + 1 = nI (L.length + 1) := nI_add _ 1
    have a3 : nI (100 + k) - 100 = nI k := (nI_sub (b := 100) (by omega)).trans (congrArg nI (by omega))
    have t10 : ¬ (1 : Int32) = 0 := by decide
    rw [e5, if_neg (m5_ne (by omega)), if_pos u1, oI_e, b1_s, a1, if_pos u3, if_neg u2, b1_s, if_neg t10, b1_s, if_neg t10, a3, placeOf_e _ q1 k2, b1_s, b1_s, wI_n (by omega) (by omega), b1_s, if_neg t10, nI_add, nI_sub (by omega), placeOf_e _ (by omega) k2, b1_s, a2, wI_n (by omega) (by omega), b1_s]
    refine ⟨_, rfl, ⟨?_, ?_, ?_⟩, ⟨?_, ?_, ?_, fun j hj => ?_⟩, Fr.pA rfl (Fr.pA rfl (Fr.pI rfl (Fr.refl _ _)))⟩
    · simp [gI_pI, gI_pL, gI_pA, gI_pB, gI_pR, gI_pW, gL_pI, gL_pL, gL_pA, gL_pB, gL_pR, gL_pW, aI_pI, aI_pL, aI_pA, aI_pB, aI_pR, aI_pW, aL_pI, aL_pL, aL_pA, aL_pB, aL_pR, aL_pW, gR_pI, gR_pL, gR_pA, gR_pB, gR_pR, gR_pW, plb]
    · simp [gI_pI, gI_pL, gI_pA, gI_pB, gI_pR, gI_pW, gL_pI, gL_pL, gL_pA, gL_pB, gL_pR, gL_pW, aI_pI, aI_pL, aI_pA, aI_pB, aI_pR, aI_pW, aL_pI, aL_pL, aL_pA, aL_pB, aL_pR, aL_pW, gR_pI, gR_pL, gR_pA, gR_pB, gR_pR, gR_pW, plb]
    · exact st.cong (fun i hi => by simp only [gI_pI, gI_pL, gI_pA, gI_pB, gI_pR, gI_pW, gL_pI, gL_pL, gL_pA, gL_pB, gL_pR, gL_pW, aI_pI, aI_pL, aI_pA, aI_pB, aI_pR, aI_pW, aL_pI, aL_pL, aL_pA, aL_pB, aL_pR, aL_pW, gR_pI, gR_pL, gR_pA, gR_pB, gR_pR, gR_pW]; rw [if_neg (by omega), if_neg (by omega)])
    · simp only [gI_pI, gI_pL, gI_pA, gI_pB, gI_pR, gI_pW, gL_pI, gL_pL, gL_pA, gL_pB, gL_pR, gL_pW, aI_pI, aI_pL, aI_pA, aI_pB, aI_pR, aI_pW, aL_pI, aL_pL, aL_pA, aL_pB, aL_pR, aL_pW, gR_pI, gR_pL, gR_pA, gR_pB, gR_pR, gR_pW]; simpa [nx] using c1
    · simp only [gI_pI, gI_pL, gI_pA, gI_pB, gI_pR, gI_pW, gL_pI, gL_pL, gL_pA, gL_pB, gL_pR, gL_pW, aI_pI, aI_pL, aI_pA, aI_pB, aI_pR, aI_pW, aL_pI, aL_pL, aL_pA, aL_pB, aL_pR, aL_pW, gR_pI, gR_pL, gR_pA, gR_pB, gR_pR, gR_pW]; simp only [and_self, if_true]; rw [c2]; exact nI_add _ 1
    · simp only [gI_pI, gI_pL, gI_pA, gI_pB, gI_pR, gI_pW, gL_pI, gL_pL, gL_pA, gL_pB, gL_pR, gL_pW, aI_pI, aI_pL, aI_pA, aI_pB, aI_pR, aI_pW, aL_pI, aL_pL, aL_pA, aL_pB, aL_pR, aL_pW, gR_pI, gR_pL, gR_pA, gR_pB, gR_pR, gR_pW]; simpa [nx] using c3
    · simp only [gI_pI, gI_pL, gI_pA, gI_pB, gI_pR, gI_pW, gL_pI, gL_pL, gL_pA, gL_pB, gL_pR, gL_pW, aI_pI, aI_pL, aI_pA, aI_pB, aI_pR, aI_pW, aL_pI, aL_pL, aL_pA, aL_pB, aL_pR, aL_pW, gR_pI, gR_pL, gR_pA, gR_pB, gR_pR, gR_pW]; simpa [nx] using c4 j hj
  ·
    obtain ⟨q1, q2⟩ : 1 ≤ k ∧ k < b.h := dk
    have e5 : dcc (.inr (.inr k)) = nI (200 + k) := rfl
    have u1 : (100 : Int32) ≤ nI (200 + k) := nI_le (show 100 ≤ 200 + k by omega) (by omega)
    have u2 : (200 : Int32) ≤ nI (200 + k) := nI_le (show 200 ≤ 200 + k by omega) (by omega)
    have hl' : L.length + 2 ≤ 64 := hl
    have u3 : nI (L.length + 2) ≤ (64 : Int32) := nI_le hl' (by decide)
    have a1 : nI L.length + 2 = nI (L.length + 2) := nI_add _ 2
    have a2 : nI L.length + 1 = nI (L.length + 1) := nI_add _ 1
    have a3 : nI (200 + k) - 200 = nI k := (nI_sub (b := 200) (by omega)).trans (congrArg nI (by omega))
    have t00 : (0 : Int32) = 0 := rfl
    rw [e5, if_neg (m5_ne (by omega)), if_pos u1, oI_e, b1_s, a1, if_pos u3, if_pos u2, b1_s, if_pos t00, b1_s, if_pos t00, a3, placeOf_e _ k1 q1, b1_s, b1_s, wI_n (by omega) (by omega), b1_s, if_pos t00, nI_add, nI_sub (by omega), placeOf_e _ k1 (by omega), b1_s, a2, wI_n (by omega) (by omega), b1_s]
    refine ⟨_, rfl, ⟨?_, ?_, ?_⟩, ⟨?_, ?_, ?_, fun j hj => ?_⟩, Fr.pA rfl (Fr.pA rfl (Fr.pI rfl (Fr.refl _ _)))⟩
    · simp [gI_pI, gI_pL, gI_pA, gI_pB, gI_pR, gI_pW, gL_pI, gL_pL, gL_pA, gL_pB, gL_pR, gL_pW, aI_pI, aI_pL, aI_pA, aI_pB, aI_pR, aI_pW, aL_pI, aL_pL, aL_pA, aL_pB, aL_pR, aL_pW, gR_pI, gR_pL, gR_pA, gR_pB, gR_pR, gR_pW, plb]
    · simp [gI_pI, gI_pL, gI_pA, gI_pB, gI_pR, gI_pW, gL_pI, gL_pL, gL_pA, gL_pB, gL_pR, gL_pW, aI_pI, aI_pL, aI_pA, aI_pB, aI_pR, aI_pW, aL_pI, aL_pL, aL_pA, aL_pB, aL_pR, aL_pW, gR_pI, gR_pL, gR_pA, gR_pB, gR_pR, gR_pW, plb]
    · exact st.cong (fun i hi => by simp only [gI_pI, gI_pL, gI_pA, gI_pB, gI_pR, gI_pW, gL_pI, gL_pL, gL_pA, gL_pB, gL_pR, gL_pW, aI_pI, aI_pL, aI_pA, aI_pB, aI_pR, aI_pW, aL_pI, aL_pL, aL_pA, aL_pB, aL_pR, aL_pW, gR_pI, gR_pL, gR_pA, gR_pB, gR_pR, gR_pW]; rw [if_neg (by omega), if_neg (by omega)])
    · simp only [gI_pI, gI_pL, gI_pA, gI_pB, gI_pR, gI_pW, gL_pI, gL_pL, gL_pA, gL_pB, gL_pR, gL_pW, aI_pI, aI_pL, aI_pA, aI_pB, aI_pR, aI_pW, aL_pI, aL_pL, aL_pA, aL_pB, aL_pR, aL_pW, gR_pI, gR_pL, gR_pA, gR_pB, gR_pR, gR_pW]; simpa [nx] using c1
    · simp only [gI_pI, gI_pL, gI_pA, gI_pB, gI_pR, gI_pW, gL_pI, gL_pL, gL_pA, gL_pB, gL_pR, gL_pW, aI_pI, aI_pL, aI_pA, aI_pB, aI_pR, aI_pW, aL_pI, aL_pL, aL_pA, aL_pB, aL_pR, aL_pW, gR_pI, gR_pL, gR_pA, gR_pB, gR_pR, gR_pW]; simp only [and_self, if_true]; rw [c2]; exact nI_add _ 1
    · simp only [gI_pI, gI_pL, gI_pA, gI_pB, gI_pR, gI_pW, gL_pI, gL_pL, gL_pA, gL_pB, gL_pR, gL_pW, aI_pI, aI_pL, aI_pA, aI_pB, aI_pR, aI_pW, aL_pI, aL_pL, aL_pA, aL_pB, aL_pR, aL_pW, gR_pI, gR_pL, gR_pA, gR_pB, gR_pR, gR_pW]; simpa [nx] using c3
    · simp only [gI_pI, gI_pL, gI_pA, gI_pB, gI_pR, gI_pW, gL_pI, gL_pL, gL_pA, gL_pB, gL_pR, gL_pW, aI_pI, aI_pL, aI_pA, aI_pB, aI_pR, aI_pW, aL_pI, aL_pL, aL_pA, aL_pB, aL_pR, aL_pW, gR_pI, gR_pL, gR_pA, gR_pB, gR_pR, gR_pW]; simpa [nx] using c4 j hj
