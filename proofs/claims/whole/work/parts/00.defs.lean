/-! the states and the pure functions of class and reference -/
/-- int fields, long fields, int and boolean rows, long rows, changing references; each by place and index -/
abbrev St : Type := (Nat → Nat → Int32) × (Nat → Nat → Int64) × (Nat → Nat → Int32) × (Nat → Nat → Int64) × (Nat → Nat → Nat)
def up2 {α : Type} (f : Nat → Nat → α) (k j : Nat) (v : α) : Nat → Nat → α := fun a b => if a = k then (if b = j then v else f a b) else f a b
def gI_ (S : St) (k j : Nat) : Int32 := S.1 k j
def gL_ (S : St) (k j : Nat) : Int64 := S.2.1 k j
def aI_ (S : St) (k j : Nat) : Int32 := S.2.2.1 k j
def aL_ (S : St) (k j : Nat) : Int64 := S.2.2.2.1 k j
def gR_ (S : St) (k j : Nat) : Nat := S.2.2.2.2 k j
def pI_ (S : St) (k j : Nat) (v : Int32) : St := (up2 S.1 k j v, S.2)
def pL_ (S : St) (k j : Nat) (v : Int64) : St := (S.1, up2 S.2.1 k j v, S.2.2)
def pA_ (S : St) (k j : Nat) (v : Int32) : St := (S.1, S.2.1, up2 S.2.2.1 k j v, S.2.2.2)
def pB_ (S : St) (k j : Nat) (v : Int64) : St := (S.1, S.2.1, S.2.2.1, up2 S.2.2.2.1 k j v, S.2.2.2.2)
def pR_ (S : St) (k j : Nat) (v : Nat) : St := (S.1, S.2.1, S.2.2.1, S.2.2.2.1, up2 S.2.2.2.2 k j v)
/-- a whole int row put at once -/
def pW_ (S : St) (k : Nat) (f : Nat → Int32) : St := (S.1, S.2.1, fun a => if a = k then f else S.2.2.1 a, S.2.2.2)
def txL_ : List Nat := [5, 3, 5, 5, 6]
def txB_ : List (List Int32) := [[115, 116, 97, 109, 112], [98, 97, 114], [108, 105, 109, 105, 116], [108, 101, 97, 115, 116], [115, 101, 99, 111, 110, 100]]
def b1 {α β : Type} (o : Option α) (f : α → Option β) : Option β := match o with
  | none => none
  | some a => f a
def bs {α β γ : Type} (o : Option (α ⊕ β)) (f : α → Option γ) (g : β → Option γ) : Option γ := match o with
  | none => none
  | some (.inl a) => f a
  | some (.inr b) => g b
/-- a loop: the body gives the next round's state, or the loop's end -/
def lp {σ ρ : Type} (body : σ → Option (σ ⊕ ρ)) : Nat → σ → Option ρ
  | 0, _ => none
  | n + 1, s => match body s with
    | none => none
    | some (.inl s') => lp body n s'
    | some (.inr r) => some r
def rI_ (S : St) (k n : Nat) (i : Int32) : Option Int32 := if i < 0 ∨ n ≤ i.toNatClampNeg then none else some (aI_ S k i.toNatClampNeg)
def rL_ (S : St) (k n : Nat) (i : Int32) : Option Int64 := if i < 0 ∨ n ≤ i.toNatClampNeg then none else some (aL_ S k i.toNatClampNeg)
def rR_ (n : Nat) (g : Nat → Nat) (i : Int32) : Option Nat := if i < 0 ∨ n ≤ i.toNatClampNeg then none else some (g i.toNatClampNeg)
def wI_ (S : St) (k n : Nat) (i v : Int32) : Option St := if i < 0 ∨ n ≤ i.toNatClampNeg then none else some (pA_ S k i.toNatClampNeg v)
def wZ_ (S : St) (k n : Nat) (i v : Int32) : Option St := if i < 0 ∨ n ≤ i.toNatClampNeg then none else some (pA_ S k i.toNatClampNeg (vp_nar .boolean v))
def wL_ (S : St) (k n : Nat) (i : Int32) (v : Int64) : Option St := if i < 0 ∨ n ≤ i.toNatClampNeg then none else some (pB_ S k i.toNatClampNeg v)
/-- a boolean's answer -/
def bz_ (v : Int32) : Option Int32 := if v = 0 ∨ v = 1 then some v else none
/-- a divisor -/
def dv_ (v : Int32) : Option Int32 := if v = 0 then none else some v
def oI_ (S : St) (k j : Nat) (v : Int32) : Option St := some (pI_ S k j v)
def oL_ (S : St) (k j : Nat) (v : Int64) : Option St := some (pL_ S k j v)
def oR_ (S : St) (k j : Nat) (v : Nat) : Option St := some (pR_ S k j v)
def okL_ (r : Nat) : Option Nat := if r = 62 ∨ r = 68 then some r else none
def mmax_ (x y : Int32) : Int32 := if x < y then y else x
def mmin_ (x y : Int32) : Int32 := if y < x then y else x
def mabs_ (x : Int32) : Int32 := if 0 ≤ x then x else 0 - x
def cp_ (S : St) (a b n0 n1 : Nat) (sp dp n : Int32) : Option St := if ¬ sp < 0 ∧ ¬ dp < 0 ∧ ¬ n < 0 ∧ sp.toNatClampNeg + n.toNatClampNeg ≤ n0 ∧ dp.toNatClampNeg + n.toNatClampNeg ≤ n1 then some (pW_ S b (va_cpy (S.2.2.1 a) (S.2.2.1 b) sp.toNatClampNeg dp.toNatClampNeg n.toNatClampNeg)) else none
def slen_ (i : Nat) : Option Int32 := if i < 5 then some (Int32.ofNat (txL_.getD i 0)) else none
def schar_ (i : Nat) (k : Int32) : Option Int32 := if i < 5 then (if k < 0 ∨ txL_.getD i 0 ≤ k.toNatClampNeg then none else some ((txB_.getD i []).getD k.toNatClampNeg 0)) else none
def fX11_within (S : St) (v0 : Int32) (v1 : Int32) (v2 : Int32) : Option Int32 :=
  (if v0 < v1 then some 0 else (if v2 < v0 then some 0 else some 1))
def bX1_renew_17 (k0 : Nat) (v25 : Int32) (S26 : St) : Option ((Int32 × St) ⊕ ((St))) :=
  (if 64 ≤ v25 then some (.inr S26) else b1 (wI_ S26 (k0 + 1) 64 v25 0) fun S27 => some (.inl (v25 + 1, S27)))
def fX1_renew (k0 : Nat) (S : St) (v1 : Int32) (v2 : Int32) : Option St :=
  b1 (oI_ S k0 0 v1) fun S21 => b1 (oI_ S21 k0 1 v2) fun S22 => b1 (oL_ S22 k0 2 0) fun S23 => b1 (lp (fun w24 : Int32 × St => bX1_renew_17 k0 w24.1 w24.2) 5000 (0, S23)) fun u29 => some u29
def fX11_burl (S : St) (v1 : Int32) (v2 : Int32) : Option (Int32 × St) :=
  b1 (fX11_within S v1 1 8) fun x21 => (if x21 = 0 then some ((-1), S) else b1 (fX11_within S v2 1 8) fun x22 => (if x22 = 0 then some ((-1), S) else b1 (fX1_renew 1 S v1 v2) fun S23 => b1 (oI_ S23 3 2 0) fun S24 => b1 (oI_ S24 0 5 0) fun S25 => some (1, S25)))
def fX1_hasSquare (k0 : Nat) (S : St) (v1 : Int32) (v2 : Int32) : Option Int32 :=
  b1 (fX11_within S v1 0 ((gI_ S k0 0) - 1)) fun x21 => (if x21 = 0 then some 0 else b1 (fX11_within S v2 0 ((gI_ S k0 1) - 1)) fun x22 => (if x22 = 0 then some 0 else some 1))
def fX1_copyFrom (k0 : Nat) (k1 : Nat) (S : St) : Option St :=
  b1 (oI_ S k0 0 (gI_ S k1 0)) fun S21 => b1 (oI_ S21 k0 1 (gI_ S21 k1 1)) fun S22 => b1 (oL_ S22 k0 2 (gL_ S22 k1 2)) fun S23 => b1 (cp_ S23 (k1 + 1) (k0 + 1) 64 64 0 0 64) fun S24 => some S24
def fX0_keep (k1 : Nat) (S : St) : Option St :=
  b1 (rR_ 8 (fun i => 5 + 2 * i) (gI_ S 3 1)) fun k21 => b1 (fX1_copyFrom k21 k1 S) fun S22 => b1 ((if gI_ S22 3 1 = 7 then some 0 else some ((gI_ S22 3 1) + 1)) : Option (Int32)) fun w23 => b1 (oI_ S22 3 1 w23) fun S24 => b1 (oI_ S24 3 2 (mmin_ 8 ((gI_ S24 3 2) + 1))) fun S25 => some S25
def fX11_squareAt (S : St) (v0 : Int32) (v1 : Int32) : Option Int32 :=
  some ((v1 * 8) + v0)
def fX11_bit (S : St) (v0 : Int64) (v2 : Int32) (v3 : Int32) : Option Int32 :=
  b1 (fX11_squareAt S v2 v3) fun x21 => some ((((v0 : Int64) >>> ((x21 : Int32).toInt64 &&& 63)) &&& 1 : Int64).toInt32)
def fX11_withBit (S : St) (v0 : Int64) (v2 : Int32) (v3 : Int32) (v4 : Int32) : Option Int64 :=
  b1 (fX11_squareAt S v2 v3) fun x21 => b1 (some ((1 : Int64) <<< ((x21 : Int32).toInt64 &&& 63))) fun x22 => (if v4 = 0 then some (v0 &&& (x22 ^^^ (-1))) else some (v0 ||| x22))
def fX11_crack (S : St) (v1 : Int32) (v2 : Int32) (v3 : Int32) : Option (Int32 × St) :=
  b1 (fX1_hasSquare 1 S v1 v2) fun x21 => (if x21 = 0 then some ((-1), S) else b1 (fX0_keep 1 S) fun S22 => b1 (fX11_bit S22 (gL_ S22 1 2) v1 v2) fun x23 => b1 (fX11_withBit S22 (gL_ S22 1 2) v1 v2 v3) fun x24 => b1 (oL_ S22 1 2 x24) fun S25 => some (x23, S25))
def fX11_grain (S : St) (v1 : Int32) (v2 : Int32) (v3 : Int32) : Option (Int32 × St) :=
  b1 (fX1_hasSquare 1 S v1 v2) fun x21 => (if x21 = 0 then some ((-1), S) else b1 (fX11_within S v3 0 9) fun x22 => (if x22 = 0 then some ((-1), S) else b1 (fX0_keep 1 S) fun S23 => b1 (fX11_squareAt S23 v1 v2) fun x24 => b1 (rI_ S23 2 64 x24) fun x25 => b1 (wI_ S23 2 64 x24 v3) fun S26 => some (x25, S26)))
def fX7_add (S : St) (v1 : Int32) (v2 : Int32) (v3 : Int32) (v4 : Int32) (v5 : Int32) : Option (Int32 × St) :=
  b1 (wI_ S 22 8 (gI_ S 21 5) v1) fun S21 => b1 (wI_ S21 23 8 (gI_ S21 21 5) v2) fun S22 => b1 (wI_ S22 24 8 (gI_ S22 21 5) v3) fun S23 => b1 (wI_ S23 25 8 (gI_ S23 21 5) v4) fun S24 => b1 (wZ_ S24 26 8 (gI_ S24 21 5) v5) fun S25 => b1 (oI_ S25 21 5 ((gI_ S25 21 5) + 1)) fun S26 => some ((gI_ S26 21 5) - 1, S26)
def fX11_shape (S : St) (v1 : Int32) (v2 : Int32) (v3 : Int32) (v4 : Int32) (v5 : Int32) : Option (Int32 × St) :=
  b1 (fX11_within S v1 1 8) fun x21 => (if x21 = 0 then some ((-1), S) else b1 (fX11_within S v2 1 8) fun x22 => (if x22 = 0 then some ((-1), S) else b1 (fX11_within S v3 1 500) fun x23 => (if x23 = 0 then some ((-1), S) else b1 (fX11_within S v4 0 9) fun x24 => (if x24 = 0 then some ((-1), S) else (if gI_ S 21 5 < 8 then b1 (fX7_add S v1 v2 v3 v4 v5) fun q25 => some (q25.1, q25.2) else some ((-3), S))))))
def bX4_want_2 (S : St) (v1 : Int32) (v22 : Int32) : Option ((Int32) ⊕ ((Unit) ⊕ Int32)) :=
  (if gI_ S 42 5 ≤ v22 then some (.inr (.inl ())) else b1 (rI_ S 43 8 v22) fun x23 => (if x23 = v1 then some (.inr (.inr 1)) else some (.inl (v22 + 1))))
def fX4_want (S : St) (v1 : Int32) : Option Int32 :=
  bs (lp (fun w21 : Int32 => bX4_want_2 S v1 w21) 5000 0) (fun u26 => some 0) (fun rr => some rr)
def fX11_drop (S : St) : Option (Int32 × St) :=
  (if gI_ S 21 5 = 0 then some ((-4), S) else b1 (fX4_want S ((gI_ S 21 5) - 1)) fun x21 => (if x21 = 0 then b1 (oI_ S 21 5 ((gI_ S 21 5) - 1)) fun S22 => some (gI_ S22 21 5, S22) else some ((-2), S)))
def fX1_hasBlock (k0 : Nat) (S : St) (v1 : Int32) (v2 : Int32) (v3 : Int32) (v4 : Int32) : Option Int32 :=
  b1 (fX11_within S v3 1 (gI_ S k0 0)) fun x21 => (if x21 = 0 then some 0 else b1 (fX11_within S v4 1 (gI_ S k0 1)) fun x22 => (if x22 = 0 then some 0 else b1 (fX11_within S v1 0 ((gI_ S k0 0) - v3)) fun x23 => (if x23 = 0 then some 0 else b1 (fX11_within S v2 0 ((gI_ S k0 1) - v4)) fun x24 => (if x24 = 0 then some 0 else some 1))))
def fX7_has (S : St) (v1 : Int32) : Option Int32 :=
  b1 (fX11_within S v1 0 ((gI_ S 21 5) - 1)) fun x21 => b1 (bz_ x21) fun z22 => some z22
def fX7_isOf (S : St) (v1 : Int32) (v2 : Int32) (v3 : Int32) : Option Int32 :=
  b1 (rI_ S 22 8 v1) fun x21 => bs ((if x21 = v2 then b1 (rI_ S 23 8 v1) fun x29 => (if x29 = v3 then some (.inr 1) else some (.inl ())) else some (.inl ())) : Option ((Unit) ⊕ Int32)) (fun w22 => b1 (rI_ S 26 8 v1) fun x23 => (if x23 = 0 then some 0 else b1 (rI_ S 22 8 v1) fun x24 => (if x24 = v3 then b1 (rI_ S 23 8 v1) fun x25 => (if x25 = v2 then some 1 else some 0) else some 0))) (fun r32 => some r32)
def bX1_soundness_19 (k0 : Nat) (S : St) (v1 : Int32) (v3 : Int32) (v23 : Int32) (v25 : Int32) (v26 : Int32) : Option ((Int32 × Int32) ⊕ ((Int32) ⊕ Int32)) :=
  (if v1 + v3 ≤ v26 then some (.inr (.inl v25)) else b1 (fX11_bit S (gL_ S k0 2) v26 v23) fun x27 => (if x27 = 1 then some (.inr (.inr (-1))) else b1 (fX11_squareAt S v26 v23) fun x28 => b1 (rI_ S (k0 + 1) 64 x28) fun x29 => some (.inl (mmin_ v25 x29, v26 + 1))))
def bX1_soundness_7 (k0 : Nat) (S : St) (v1 : Int32) (v2 : Int32) (v3 : Int32) (v4 : Int32) (v22 : Int32) (v23 : Int32) : Option ((Int32 × Int32) ⊕ ((Int32) ⊕ Int32)) :=
  (if v2 + v4 ≤ v23 then some (.inr (.inl v22)) else bs (lp (fun w24 : Int32 × Int32 => bX1_soundness_19 k0 S v1 v3 v23 w24.1 w24.2) 5000 (v22, v1)) (fun u32 => some (.inl (u32, v23 + 1))) (fun rr => some (.inr (.inr rr))))
def fX1_soundness (k0 : Nat) (S : St) (v1 : Int32) (v2 : Int32) (v3 : Int32) (v4 : Int32) : Option Int32 :=
  bs (lp (fun w21 : Int32 × Int32 => bX1_soundness_7 k0 S v1 v2 v3 v4 w21.1 w21.2) 5000 (9, v2)) (fun u34 => some u34) (fun rr => some rr)
def fX11_fits (S : St) (v1 : Int32) (v2 : Int32) (v3 : Int32) (v4 : Int32) (v5 : Int32) : Option Int32 :=
  b1 (fX1_hasBlock 1 S v1 v2 v3 v4) fun x21 => (if x21 = 0 then some (-1) else b1 (fX7_has S v5) fun x22 => (if x22 = 0 then some (-1) else b1 (fX7_isOf S v5 v3 v4) fun x23 => (if x23 = 0 then some 0 else b1 (fX1_soundness 1 S v1 v2 v3 v4) fun x24 => b1 (rI_ S 25 8 v5) fun x25 => (if x24 < x25 then some 0 else some 1))))
def bX1_hasSound_17 (k0 : Nat) (S : St) (v1 : Int32) (v2 : Int32) (v3 : Int32) (v22 : Int32) (v24 : Int32) : Option ((Int32) ⊕ ((Unit) ⊕ Int32)) :=
  (if gI_ S k0 0 < v24 + v1 then some (.inr (.inl ())) else b1 (fX1_soundness k0 S v24 v22 v1 v2) fun x25 => (if x25 < v3 then some (.inl (v24 + 1)) else some (.inr (.inr 1))))
def bX1_hasSound_3 (k0 : Nat) (S : St) (v1 : Int32) (v2 : Int32) (v3 : Int32) (v22 : Int32) : Option ((Int32) ⊕ ((Unit) ⊕ Int32)) :=
  (if gI_ S k0 1 < v22 + v2 then some (.inr (.inl ())) else bs (lp (fun w23 : Int32 => bX1_hasSound_17 k0 S v1 v2 v3 v22 w23) 5000 0) (fun u28 => some (.inl (v22 + 1))) (fun rr => some (.inr (.inr rr))))
def fX1_hasSound (k0 : Nat) (S : St) (v1 : Int32) (v2 : Int32) (v3 : Int32) : Option Int32 :=
  bs (lp (fun w21 : Int32 => bX1_hasSound_3 k0 S v1 v2 v3 w21) 5000 0) (fun u30 => some 0) (fun rr => some rr)
def fX11_isOpen (S : St) (v1 : Int32) : Option Int32 :=
  b1 (rI_ S 22 8 v1) fun x21 => b1 (rI_ S 23 8 v1) fun x22 => b1 (rI_ S 25 8 v1) fun x23 => b1 (fX1_hasSound 1 S x21 x22 x23) fun x24 => (if x24 = 0 then b1 (rI_ S 26 8 v1) fun x25 => (if x25 = 0 then some 0 else b1 (fX1_hasSound 1 S x22 x21 x23) fun x26 => (if x26 = 0 then some 0 else some 1)) else some 1)
def bX11_open_4 (S : St) (v22 : Int32) (v23 : Int32) : Option ((Int32 × Int32) ⊕ ((Int32))) :=
  (if gI_ S 21 5 ≤ v23 then some (.inr v22) else b1 (fX11_isOpen S v23) fun x24 => (if x24 = 0 then some (.inl (v22, v23 + 1)) else b1 (some (v22 ||| ((1 : Int32) <<< ((v23 : Int32) &&& 31)))) fun x25 => some (.inl (x25, v23 + 1))))
def fX11_open (S : St) : Option Int32 :=
  b1 (lp (fun w21 : Int32 × Int32 => bX11_open_4 S w21.1 w21.2) 5000 (0, 0)) fun u28 => some u28
def fX6_seeOnly (S : St) (v1 : Int64) : Option St :=
  b1 (wL_ S 28 4 0 v1) fun S21 => b1 (oI_ S21 27 3 1) fun S22 => some S22
def bX6_markSquares_47 (v22 : Int32) (v25 : Int32) (S26 : St) (v31 : Int32) (v32 : Int32) : Option ((Int32 × Int32) ⊕ ((Int32))) :=
  (if gI_ S26 27 3 ≤ v32 then some (.inr v31) else b1 (rL_ S26 28 4 v32) fun x33 => b1 (fX11_bit S26 x33 v25 v22) fun x34 => b1 (some (v31 ||| ((1 - x34 : Int32) <<< ((10 + v32 : Int32) &&& 31)))) fun x35 => some (.inl (x35, v32 + 1)))
def bX6_markSquares_15 (v22 : Int32) (v25 : Int32) (S26 : St) : Option ((Int32 × St) ⊕ ((St))) :=
  (if gI_ S26 1 0 ≤ v25 then some (.inr S26) else b1 (fX11_squareAt S26 v25 v22) fun x27 => b1 (rI_ S26 2 64 x27) fun x28 => b1 (some (((2 : Int32) <<< ((x28 : Int32) &&& 31)) - 1)) fun x29 => b1 (lp (fun w30 : Int32 × Int32 => bX6_markSquares_47 v22 v25 S26 w30.1 w30.2) 5000 (x29, 0)) fun u37 => b1 (fX11_squareAt S26 v25 v22) fun x38 => b1 (wI_ S26 29 64 x38 u37) fun S39 => some (.inl (v25 + 1, S39)))
def bX6_markSquares_2  (v22 : Int32) (S23 : St) : Option ((Int32 × St) ⊕ ((St))) :=
  (if gI_ S23 1 1 ≤ v22 then some (.inr S23) else b1 (lp (fun w24 : Int32 × St => bX6_markSquares_15 v22 w24.1 w24.2) 5000 (0, S23)) fun u41 => some (.inl (v22 + 1, u41)))
def fX6_markSquares (S : St) : Option St :=
  b1 (lp (fun w21 : Int32 × St => bX6_markSquares_2  w21.1 w21.2) 5000 (0, S)) fun u43 => some u43
def bX6_sortShapes_2  (v22 : Int32) (S23 : St) : Option ((Int32 × St) ⊕ ((St))) :=
  (if 64 ≤ v22 then some (.inr S23) else b1 (wI_ S23 30 64 v22 0) fun S24 => some (.inl (v22 + 1, S24)))
def bX6_sortShapes_23  (v28 : Int32) (S29 : St) : Option ((Int32 × St) ⊕ ((St))) :=
  (if gI_ S29 21 5 ≤ v28 then some (.inr S29) else b1 (rI_ S29 22 8 v28) fun x30 => b1 (rI_ S29 23 8 v28) fun x31 => b1 (fX11_squareAt S29 (x30 - 1) (x31 - 1)) fun x32 => b1 (rI_ S29 30 64 x32) fun x33 => b1 (wI_ S29 30 64 x32 (x33 ||| ((1 : Int32) <<< ((v28 : Int32) &&& 31)))) fun S34 => b1 (rI_ S34 26 8 v28) fun x35 => (if x35 = 0 then some (.inl (v28 + 1, S34)) else b1 (fX11_squareAt S34 (x31 - 1) (x30 - 1)) fun x36 => b1 (rI_ S34 30 64 x36) fun x37 => b1 (wI_ S34 30 64 x36 (x37 ||| ((1 : Int32) <<< ((v28 : Int32) &&& 31)))) fun S38 => some (.inl (v28 + 1, S38))))
def fX6_sortShapes (S : St) : Option St :=
  b1 (lp (fun w21 : Int32 × St => bX6_sortShapes_2  w21.1 w21.2) 5000 (0, S)) fun u26 => b1 (lp (fun w27 : Int32 × St => bX6_sortShapes_23  w27.1 w27.2) 5000 (0, u26)) fun u41 => some u41
def bX6_markOf_18 (S : St) (v1 : Int32) (v3 : Int32) (v23 : Int32) (v25 : Int32) (v26 : Int32) : Option ((Int32 × Int32) ⊕ ((Int32))) :=
  (if v1 + v3 ≤ v26 then some (.inr v25) else b1 (fX11_squareAt S v26 v23) fun x27 => b1 (rI_ S 29 64 x27) fun x28 => some (.inl (v25 &&& x28, v26 + 1)))
def bX6_markOf_6 (S : St) (v1 : Int32) (v2 : Int32) (v3 : Int32) (v4 : Int32) (v22 : Int32) (v23 : Int32) : Option ((Int32 × Int32) ⊕ ((Int32))) :=
  (if v2 + v4 ≤ v23 then some (.inr v22) else b1 (lp (fun w24 : Int32 × Int32 => bX6_markOf_18 S v1 v3 v23 w24.1 w24.2) 5000 (v22, v1)) fun u30 => some (.inl (u30, v23 + 1)))
def fX6_markOf (S : St) (v1 : Int32) (v2 : Int32) (v3 : Int32) (v4 : Int32) : Option Int32 :=
  b1 (lp (fun w21 : Int32 × Int32 => bX6_markOf_6 S v1 v2 v3 v4 w21.1 w21.2) 5000 ((-1), v2)) fun u32 => some u32
def fX6_placeOf (S : St) (v0 : Int32) (v1 : Int32) (v2 : Int32) (v3 : Int32) : Option Int32 :=
  b1 (fX11_squareAt S v0 v1) fun x21 => some ((((v2 - 1) * 512) + ((v3 - 1) * 64)) + x21)
def fJ6_bitCount_0f7a4 (S : St) (v0 : Int32) : Option Int32 :=
  b1 (some (v0 - ((((v0 : Int32).toUInt32 >>> ((1 : Int32).toUInt32 &&& Int32.toUInt32 31)).toInt32) &&& 1431655765))) fun x21 => b1 (some ((x21 &&& 858993459) + ((((x21 : Int32).toUInt32 >>> ((2 : Int32).toUInt32 &&& Int32.toUInt32 31)).toInt32) &&& 858993459))) fun x22 => b1 (some ((x22 + (((x22 : Int32).toUInt32 >>> ((4 : Int32).toUInt32 &&& Int32.toUInt32 31)).toInt32)) &&& 252645135)) fun x23 => b1 (some (x23 + (((x23 : Int32).toUInt32 >>> ((8 : Int32).toUInt32 &&& Int32.toUInt32 31)).toInt32))) fun x24 => b1 (some (x24 + (((x24 : Int32).toUInt32 >>> ((16 : Int32).toUInt32 &&& Int32.toUInt32 31)).toInt32))) fun x25 => some (x25 &&& 63)
def fX6_brings (S : St) (v1 : Int32) (v2 : Int32) : Option Int32 :=
  b1 (rI_ S 25 8 v1) fun x21 => b1 ((if ((v2 : Int32) >>> ((x21 : Int32) &&& 31)) &&& 1 = 1 then some 1 else some 0) : Option (Int32)) fun w22 => (if w22 = 0 then some 0 else b1 (rI_ S 24 8 v1) fun x23 => b1 (fJ6_bitCount_0f7a4 S ((v2 : Int32) >>> ((10 : Int32) &&& 31))) fun x24 => some (x23 * x24))
def bX6_bestPipe_5 (S : St) (v1 : Int32) (v2 : Int32) (v22 : Int32) (v23 : Int32) : Option ((Int32 × Int32) ⊕ ((Int32))) :=
  (if gI_ S 21 5 ≤ v23 then some (.inr v22) else (if ((v1 : Int32) >>> ((v23 : Int32) &&& 31)) &&& 1 = 1 then b1 (fX6_brings S v23 v2) fun x24 => some (.inl (mmax_ v22 x24, v23 + 1)) else some (.inl (v22, v23 + 1))))
def fX6_bestPipe (S : St) (v1 : Int32) (v2 : Int32) : Option Int32 :=
  b1 (lp (fun w21 : Int32 × Int32 => bX6_bestPipe_5 S v1 v2 w21.1 w21.2) 5000 (0, 0)) fun u27 => some u27
def bX6_bestDown_25 (S : St) (v2 : Int32) (v22 : Int32) (v23 : Int32) (v24 : Int32) (v25 : Int32) : Option ((Int32 × Int32 × Int32 × Int32) ⊕ ((Int32))) :=
  (if v2 ≤ v25 then some (.inr v22) else b1 (rI_ S 33 4096 v23) fun x26 => b1 (rI_ S 33 4096 v24) fun x27 => (if x26 + x27 ≤ v22 then some (.inl (v22, v23 + 512, v24 + (-511), v25 + 1)) else some (.inl (x26 + x27, v23 + 512, v24 + (-511), v25 + 1))))
def fX6_bestDown (S : St) (v1 : Int32) (v2 : Int32) : Option Int32 :=
  b1 (lp (fun w21 : Int32 × Int32 × Int32 × Int32 => bX6_bestDown_25 S v2 w21.1 w21.2.1 w21.2.2.1 w21.2.2.2) 5000 (0, v1 - ((v2 - 1) * 512), (v1 - 512) + 1, 1)) fun u30 => some u30
def bX6_bestAcross_24 (S : St) (v2 : Int32) (v22 : Int32) (v23 : Int32) (v24 : Int32) (v25 : Int32) : Option ((Int32 × Int32 × Int32 × Int32) ⊕ ((Int32))) :=
  (if v2 ≤ v25 then some (.inr v22) else b1 (rI_ S 33 4096 v23) fun x26 => b1 (rI_ S 33 4096 v24) fun x27 => (if x26 + x27 ≤ v22 then some (.inl (v22, v23 + 64, v24 + (-56), v25 + 1)) else some (.inl (x26 + x27, v23 + 64, v24 + (-56), v25 + 1))))
def fX6_bestAcross (S : St) (v1 : Int32) (v2 : Int32) : Option Int32 :=
  b1 (lp (fun w21 : Int32 × Int32 × Int32 × Int32 => bX6_bestAcross_24 S v2 w21.1 w21.2.1 w21.2.2.1 w21.2.2.2) 5000 (0, v1 - ((v2 - 1) * 64), (v1 - 64) + 8, 1)) fun u30 => some u30
def bX6_weighBand_3 (v1 : Int32) (v2 : Int32) (v3 : Int32) (v4 : Int32) (v22 : Int32) (S23 : St) : Option ((Int32 × St) ⊕ ((St))) :=
  (if v1 + v2 ≤ v22 then some (.inr S23) else b1 (fX6_markOf S23 v22 v3 1 v4) fun x24 => b1 (wI_ S23 31 8 v22 x24) fun S25 => b1 (rI_ S25 31 8 v22) fun x26 => b1 (wI_ S25 32 8 v22 x26) fun S27 => some (.inl (v22 + 1, S27)))
def bX6_weighBand_89 (v1 : Int32) (v2 : Int32) (v4 : Int32) (v31 : Int32) (x34 : Int32) (v37 : Int32) (v38 : Int32) (S39 : St) : Option ((Int32 × Int32 × St) ⊕ ((St))) :=
  (if v1 + v2 < v38 + v31 then some (.inr S39) else b1 (rI_ S39 32 8 v38) fun x40 => b1 (rI_ S39 31 8 ((v38 + v31) - 1)) fun x41 => b1 (wI_ S39 32 8 v38 (x40 &&& x41)) fun S42 => b1 ((if x34 = 0 then some 0 else b1 (rI_ S42 32 8 v38) fun x47 => b1 (fX6_bestPipe S42 x34 x47) fun x48 => some x48) : Option (Int32)) fun w43 => b1 (fX6_bestDown S42 v37 v31) fun x44 => b1 (fX6_bestAcross S42 v37 v4) fun x45 => b1 (wI_ S42 33 4096 v37 (mmax_ w43 (mmax_ x44 x45))) fun S46 => some (.inl (v37 + 1, v38 + 1, S46)))
def bX6_weighBand_51 (v1 : Int32) (v2 : Int32) (v3 : Int32) (v4 : Int32) (v31 : Int32) (S32 : St) : Option ((Int32 × St) ⊕ ((St))) :=
  (if v2 < v31 then some (.inr S32) else b1 (fX11_squareAt S32 (v31 - 1) (v4 - 1)) fun x33 => b1 (rI_ S32 30 64 x33) fun x34 => b1 (fX6_placeOf S32 v1 v3 v31 v4) fun x35 => b1 (lp (fun w36 : Int32 × Int32 × St => bX6_weighBand_89 v1 v2 v4 v31 x34 w36.1 w36.2.1 w36.2.2) 5000 (x35, v1, S32)) fun u51 => some (.inl (v31 + 1, u51)))
def fX6_weighBand (S : St) (v1 : Int32) (v2 : Int32) (v3 : Int32) (v4 : Int32) : Option St :=
  b1 (lp (fun w21 : Int32 × St => bX6_weighBand_3 v1 v2 v3 v4 w21.1 w21.2) 5000 (v1, S)) fun u29 => b1 (lp (fun w30 : Int32 × St => bX6_weighBand_51 v1 v2 v3 v4 w30.1 w30.2) 5000 (1, u29)) fun u53 => some u53
def bX6_weigh_21 (v1 : Int32) (v2 : Int32) (v3 : Int32) (v4 : Int32) (v24 : Int32) (v27 : Int32) (S28 : St) : Option ((Int32 × St) ⊕ ((St))) :=
  (if v2 + v4 < v27 + v24 then some (.inr S28) else b1 (fX6_weighBand S28 v1 v3 v27 v24) fun S29 => some (.inl (v27 + 1, S29)))
def bX6_weigh_11 (v1 : Int32) (v2 : Int32) (v3 : Int32) (v4 : Int32) (v24 : Int32) (S25 : St) : Option ((Int32 × St) ⊕ ((St))) :=
  (if v4 < v24 then some (.inr S25) else b1 (lp (fun w26 : Int32 × St => bX6_weigh_21 v1 v2 v3 v4 v24 w26.1 w26.2) 5000 (v2, S25)) fun u31 => some (.inl (v24 + 1, u31)))
def fX6_weigh (S : St) (v1 : Int32) (v2 : Int32) (v3 : Int32) (v4 : Int32) : Option (Int32 × St) :=
  b1 (fX6_markSquares S) fun S21 => b1 (fX6_sortShapes S21) fun S22 => b1 (lp (fun w23 : Int32 × St => bX6_weigh_11 v1 v2 v3 v4 w23.1 w23.2) 5000 (1, S22)) fun u33 => b1 (fX6_placeOf u33 v1 v2 v3 v4) fun x34 => b1 (rI_ u33 33 4096 x34) fun x35 => some (x35, u33)
def fX11_most (S : St) (v1 : Int32) (v2 : Int32) (v3 : Int32) (v4 : Int32) : Option (Int32 × St) :=
  b1 (fX1_hasBlock 1 S v1 v2 v3 v4) fun x21 => (if x21 = 0 then some ((-1), S) else b1 (fX6_seeOnly S (gL_ S 1 2)) fun S22 => b1 (fX6_weigh S22 v1 v2 v3 v4) fun q23 => some (q23.1, q23.2))
def bX6_firstCut_18 (S : St) (v1 : Int32) (v2 : Int32) (v3 : Int32) (v4 : Int32) (x22 : Int32) (v24 : Int32) : Option ((Int32) ⊕ ((Unit) ⊕ Int32)) :=
  (if v3 ≤ v24 then some (.inr (.inl ())) else b1 (fX6_placeOf S v1 v2 v24 v4) fun x25 => b1 (rI_ S 33 4096 x25) fun x26 => b1 (fX6_placeOf S (v1 + v24) v2 (v3 - v24) v4) fun x27 => b1 (rI_ S 33 4096 x27) fun x28 => (if x26 + x28 = x22 then some (.inr (.inr (100 + v24))) else some (.inl (v24 + 1))))
def bX6_firstCut_78 (S : St) (v1 : Int32) (v2 : Int32) (v3 : Int32) (v4 : Int32) (x22 : Int32) (v33 : Int32) : Option ((Int32) ⊕ ((Unit) ⊕ Int32)) :=
  (if v4 ≤ v33 then some (.inr (.inl ())) else b1 (fX6_placeOf S v1 v2 v3 v33) fun x34 => b1 (rI_ S 33 4096 x34) fun x35 => b1 (fX6_placeOf S v1 (v2 + v33) v3 (v4 - v33)) fun x36 => b1 (rI_ S 33 4096 x36) fun x37 => (if x35 + x37 = x22 then some (.inr (.inr (200 + v33))) else some (.inl (v33 + 1))))
def fX6_firstCut (S : St) (v1 : Int32) (v2 : Int32) (v3 : Int32) (v4 : Int32) : Option Int32 :=
  b1 (fX6_placeOf S v1 v2 v3 v4) fun x21 => b1 (rI_ S 33 4096 x21) fun x22 => bs (lp (fun w23 : Int32 => bX6_firstCut_18 S v1 v2 v3 v4 x22 w23) 5000 1) (fun u31 => bs (lp (fun w32 : Int32 => bX6_firstCut_78 S v1 v2 v3 v4 x22 w32) 5000 1) (fun u40 => some (-5)) (fun rr => some rr)) (fun rr => some rr)
def bX6_decide_54 (S : St) (x22 : Int32) (x24 : Int32) (x25 : Int32) (v27 : Int32) : Option ((Int32) ⊕ ((Unit) ⊕ Int32)) :=
  (if gI_ S 21 5 ≤ v27 then some (.inr (.inl ())) else (if ((x24 : Int32) >>> ((v27 : Int32) &&& 31)) &&& 1 = 1 then b1 (fX6_brings S v27 x25) fun x28 => (if x28 = x22 then some (.inr (.inr v27)) else some (.inl (v27 + 1))) else some (.inl (v27 + 1))))
def fX6_decide (S : St) (v1 : Int32) (v2 : Int32) (v3 : Int32) (v4 : Int32) : Option Int32 :=
  b1 (fX6_placeOf S v1 v2 v3 v4) fun x21 => b1 (rI_ S 33 4096 x21) fun x22 => (if x22 = 0 then some (-5) else b1 (fX11_squareAt S (v3 - 1) (v4 - 1)) fun x23 => b1 (rI_ S 30 64 x23) fun x24 => b1 (fX6_markOf S v1 v2 v3 v4) fun x25 => bs (lp (fun w26 : Int32 => bX6_decide_54 S x22 x24 x25 w26) 5000 0) (fun u32 => b1 (fX6_firstCut S v1 v2 v3 v4) fun x33 => some x33) (fun rr => some rr))
def fX11_cut (S : St) (v1 : Int32) (v2 : Int32) (v3 : Int32) (v4 : Int32) : Option (Int32 × St) :=
  b1 (fX1_hasBlock 1 S v1 v2 v3 v4) fun x21 => (if x21 = 0 then some ((-1), S) else b1 (fX6_seeOnly S (gL_ S 1 2)) fun S22 => b1 (fX6_weigh S22 v1 v2 v3 v4) fun q23 => b1 (fX6_decide q23.2 v1 v2 v3 v4) fun x24 => some (x24, q23.2))
def fX11_mostWith (S : St) (v1 : Int64) : Option (Int32 × St) :=
  b1 (fX6_seeOnly S v1) fun S21 => b1 (fX6_weigh S21 0 0 (gI_ S21 1 0) (gI_ S21 1 1)) fun q22 => some (q22.1, q22.2)
def fX6_tallyBlock (S : St) (v1 : Int32) (v2 : Int32) : Option (Int32 × St) :=
  b1 (some (((v1 : Int32) >>> ((3 : Int32) &&& 31)) &&& 7)) fun x21 => b1 (some ((((v1 : Int32) >>> ((6 : Int32) &&& 31)) &&& 7) + 1)) fun x22 => b1 (some ((((v1 : Int32) >>> ((9 : Int32) &&& 31)) &&& 7) + 1)) fun x23 => b1 (fX6_decide S (v1 &&& 7) x21 x23 x22) fun x24 => (if x24 = (-5) then b1 (oI_ S 27 13 ((gI_ S 27 13) + (x23 * x22))) fun S45 => some (v2, S45) else (if 100 ≤ x24 then b1 (oI_ S 27 12 ((gI_ S 27 12) + 1)) fun S25 => (if v2 + 2 ≤ 64 then b1 ((if 200 ≤ x24 then some 0 else some 1) : Option (Int32)) fun w26 => b1 ((if w26 = 0 then some (x24 - 200) else some (x24 - 100)) : Option (Int32)) fun w27 => b1 ((if w26 = 0 then b1 (fX6_placeOf S25 (v1 &&& 7) x21 x23 w27) fun x35 => some x35 else b1 (fX6_placeOf S25 (v1 &&& 7) x21 w27 x22) fun x36 => some x36) : Option (Int32)) fun w28 => b1 (wI_ S25 34 64 v2 w28) fun S29 => (if w26 = 0 then b1 (fX6_placeOf S29 (v1 &&& 7) (x21 + w27) x23 (x22 - w27)) fun x30 => b1 (wI_ S29 34 64 (v2 + 1) x30) fun S31 => some (v2 + 2, S31) else b1 (fX6_placeOf S29 ((v1 &&& 7) + w27) x21 (x23 - w27) x22) fun x32 => b1 (wI_ S29 34 64 (v2 + 1) x32) fun S33 => some (v2 + 2, S33)) else some (v2, S25)) else b1 (oI_ S 27 11 ((gI_ S 27 11) + 1)) fun S41 => b1 (rI_ S41 35 8 x24) fun x42 => b1 (wI_ S41 35 8 x24 (x42 + 1)) fun S43 => some (v2, S43)))
def bX6_tally_17  (v25 : Int32) (S26 : St) : Option ((Int32 × St) ⊕ ((St))) :=
  (if 8 ≤ v25 then some (.inr S26) else b1 (wI_ S26 35 8 v25 0) fun S27 => some (.inl (v25 + 1, S27)))
def bX6_tally_65  (v33 : Int32) (v34 : Int32) (S35 : St) : Option ((Int32 × Int32 × St) ⊕ ((St))) :=
  (if 128 ≤ v34 then some (.inr S35) else (if v33 ≤ 0 then some (.inr S35) else b1 (rI_ S35 34 64 (v33 + (-1))) fun x36 => b1 (fX6_tallyBlock S35 x36 (v33 + (-1))) fun q37 => some (.inl (q37.1, v34 + 1, q37.2))))
def fX6_tally (S : St) : Option St :=
  b1 (oI_ S 27 11 0) fun S21 => b1 (oI_ S21 27 12 0) fun S22 => b1 (oI_ S22 27 13 0) fun S23 => b1 (lp (fun w24 : Int32 × St => bX6_tally_17  w24.1 w24.2) 5000 (0, S23)) fun u29 => b1 (fX6_placeOf u29 0 0 (gI_ u29 1 0) (gI_ u29 1 1)) fun x30 => b1 (wI_ u29 34 64 0 x30) fun S31 => b1 (lp (fun w32 : Int32 × Int32 × St => bX6_tally_65  w32.1 w32.2.1 w32.2.2) 5000 (1, 0, S31)) fun u40 => some u40
def fX11_sawn (S : St) (v1 : Int32) : Option (Int32 × St) :=
  b1 (fX11_within S v1 10 (9 + (gI_ S 21 5))) fun x21 => b1 (fX11_within S v1 0 3) fun x22 => bs ((if x22 = 0 then (if x21 = 0 then some (.inr ((-1), S)) else some (.inl ())) else some (.inl ())) : Option ((Unit) ⊕ (Int32 × St))) (fun w23 => b1 (fX11_mostWith S (gL_ S 1 2)) fun q24 => (if v1 = 0 then some (q24.1, q24.2) else b1 (fX6_tally q24.2) fun S25 => (if x21 = 0 then (if v1 = 1 then some (gI_ S25 27 11, S25) else (if v1 = 2 then some (gI_ S25 27 12, S25) else some (gI_ S25 27 13, S25))) else b1 (rI_ S25 35 8 (v1 - 10)) fun x28 => some (x28, S25)))) (fun r33 => some r33)
def fX11_costs (S : St) (v1 : Int32) (v2 : Int32) : Option (Int32 × St) :=
  b1 (fX1_hasSquare 1 S v1 v2) fun x21 => (if x21 = 0 then some ((-1), S) else b1 (fX11_mostWith S (gL_ S 1 2)) fun q22 => b1 (fX11_withBit q22.2 (gL_ q22.2 1 2) v1 v2 1) fun x23 => b1 (fX11_mostWith q22.2 x23) fun q24 => some (q22.1 - q24.1, q24.2))
def fX0_takeBack (k1 : Nat) (S : St) : Option St :=
  b1 ((if gI_ S 3 1 = 0 then some 7 else some ((gI_ S 3 1) - 1)) : Option (Int32)) fun w21 => b1 (oI_ S 3 1 w21) fun S22 => b1 (oI_ S22 3 2 ((gI_ S22 3 2) - 1)) fun S23 => b1 (rR_ 8 (fun i => 5 + 2 * i) (gI_ S23 3 1)) fun k24 => b1 (fX1_copyFrom k1 k24 S23) fun S25 => some S25
def fX11_undo (S : St) : Option (Int32 × St) :=
  (if gI_ S 3 2 = 0 then some ((-4), S) else b1 (fX0_takeBack 1 S) fun S21 => some (gI_ S21 3 2, S21))
def fX11_world (S : St) : Option (Int32 × St) :=
  (if gI_ S 0 5 < 4 then b1 (wL_ S 36 4 (gI_ S 0 5) 0) fun S21 => b1 (oI_ S21 0 5 ((gI_ S21 0 5) + 1)) fun S22 => some ((gI_ S22 0 5) - 1, S22) else some ((-3), S))
def fX11_doubt (S : St) (v1 : Int32) (v2 : Int32) (v3 : Int32) (v4 : Int32) : Option (Int32 × St) :=
  b1 (fX11_within S v1 0 ((gI_ S 0 5) - 1)) fun x21 => (if x21 = 0 then some ((-1), S) else b1 (fX1_hasSquare 1 S v2 v3) fun x22 => (if x22 = 0 then some ((-1), S) else b1 (rL_ S 36 4 v1) fun x23 => b1 (fX11_bit S x23 v2 v3) fun x24 => b1 (rL_ S 36 4 v1) fun x25 => b1 (fX11_withBit S x25 v2 v3 v4) fun x26 => b1 (wL_ S 36 4 v1 x26) fun S27 => some (x24, S27)))
def fX11_mostInWorld (S : St) (v1 : Int32) : Option (Int32 × St) :=
  b1 (rL_ S 36 4 v1) fun x21 => b1 (fX6_seeOnly S ((gL_ S 1 2) ||| x21)) fun S22 => b1 (fX6_weigh S22 0 0 (gI_ S22 1 0) (gI_ S22 1 1)) fun q23 => some (q23.1, q23.2)
def bX11_late_4  (v22 : Int32) (v23 : Int32) (S24 : St) : Option ((Int32 × Int32 × St) ⊕ ((Int32 × St))) :=
  (if gI_ S24 0 5 ≤ v23 then some (.inr (v22, S24)) else b1 (fX11_mostInWorld S24 v23) fun q25 => some (.inl (v22 + q25.1, v23 + 1, q25.2)))
def fX11_late (S : St) : Option (Int32 × St) :=
  b1 (lp (fun w21 : Int32 × Int32 × St => bX11_late_4  w21.1 w21.2.1 w21.2.2) 5000 (0, 0, S)) fun u27 => some (u27.1, u27.2)
def fX6_seeToo (S : St) (v1 : Int64) : Option St :=
  (if 4 ≤ gI_ S 27 3 then some S else b1 (wL_ S 28 4 (gI_ S 27 3) v1) fun S21 => b1 (oI_ S21 27 3 ((gI_ S21 27 3) + 1)) fun S22 => some S22)
def bX11_early_23  (v24 : Int32) (S25 : St) : Option ((Int32 × St) ⊕ ((St))) :=
  (if gI_ S25 0 5 ≤ v24 then some (.inr S25) else b1 (rL_ S25 36 4 v24) fun x26 => b1 (fX6_seeToo S25 ((gL_ S25 1 2) ||| x26)) fun S27 => some (.inl (v24 + 1, S27)))
def fX11_early (S : St) : Option (Int32 × St) :=
  b1 (rL_ S 36 4 0) fun x21 => b1 (fX6_seeOnly S ((gL_ S 1 2) ||| x21)) fun S22 => b1 (lp (fun w23 : Int32 × St => bX11_early_23  w23.1 w23.2) 5000 (1, S22)) fun u29 => b1 (fX6_weigh u29 0 0 (gI_ u29 1 0) (gI_ u29 1 1)) fun q30 => some (q30.1, q30.2)
def fX11_earlyDeed (S : St) : Option (Int32 × St) :=
  b1 (fX11_early S) fun q21 => b1 (fX6_decide q21.2 0 0 (gI_ q21.2 1 0) (gI_ q21.2 1 1)) fun x22 => some (x22, q21.2)
def bX11_leastOfWorlds_8  (v23 : Int32) (v24 : Int32) (S25 : St) : Option ((Int32 × Int32 × St) ⊕ ((Int32 × St))) :=
  (if gI_ S25 0 5 ≤ v24 then some (.inr (v23, S25)) else b1 (fX11_mostInWorld S25 v24) fun q26 => some (.inl (mmin_ v23 q26.1, v24 + 1, q26.2)))
def fX11_leastOfWorlds (S : St) : Option (Int32 × St) :=
  b1 (fX11_mostInWorld S 0) fun q21 => b1 (lp (fun w22 : Int32 × Int32 × St => bX11_leastOfWorlds_8  w22.1 w22.2.1 w22.2.2) 5000 (q21.1, 1, q21.2)) fun u28 => some (u28.1, u28.2)
def bX11_greatestOfWorlds_4  (v22 : Int32) (v23 : Int32) (S24 : St) : Option ((Int32 × Int32 × St) ⊕ ((Int32 × St))) :=
  (if gI_ S24 0 5 ≤ v23 then some (.inr (v22, S24)) else b1 (fX11_mostInWorld S24 v23) fun q25 => some (.inl (mmax_ v22 q25.1, v23 + 1, q25.2)))
def fX11_greatestOfWorlds (S : St) : Option (Int32 × St) :=
  b1 (lp (fun w21 : Int32 × Int32 × St => bX11_greatestOfWorlds_4  w21.1 w21.2.1 w21.2.2) 5000 (0, 0, S)) fun u27 => some (u27.1, u27.2)
def fX11_choose (S : St) (v1 : Int32) : Option (Int32 × St) :=
  b1 (fX11_within S v1 0 5) fun x21 => (if x21 = 0 then some ((-1), S) else (if gI_ S 0 5 = 0 then some ((-2), S) else (if v1 = 0 then b1 (fX11_late S) fun q22 => some (q22.1, q22.2) else (if v1 = 1 then b1 (fX11_early S) fun q24 => some (q24.1, q24.2) else (if v1 = 2 then b1 (fX11_late S) fun q26 => b1 (fX11_early q26.2) fun q27 => some (q26.1 - q27.1, q27.2) else (if v1 = 3 then b1 (fX11_earlyDeed S) fun q29 => some (q29.1, q29.2) else (if v1 = 4 then b1 (fX11_leastOfWorlds S) fun q31 => some (q31.1, q31.2) else b1 (fX11_greatestOfWorlds S) fun q33 => some (q33.1, q33.2))))))))
def fX9_add (S : St) (v1 : Int32) (v2 : Int32) (v3 : Int32) (v4 : Int32) : Option (Int32 × St) :=
  b1 (wI_ S 38 12 (gI_ S 37 4) v1) fun S21 => b1 (wI_ S21 39 12 (gI_ S21 37 4) v2) fun S22 => b1 (wI_ S22 40 12 (gI_ S22 37 4) v3) fun S23 => b1 (wI_ S23 41 12 (gI_ S23 37 4) v4) fun S24 => b1 (oI_ S24 37 4 ((gI_ S24 37 4) + 1)) fun S25 => some ((gI_ S25 37 4) - 1, S25)
def fX11_store (S : St) (v1 : Int32) (v2 : Int32) (v3 : Int32) (v4 : Int32) : Option (Int32 × St) :=
  b1 (fX11_within S v1 1 8) fun x21 => (if x21 = 0 then some ((-1), S) else b1 (fX11_within S v2 1 8) fun x22 => (if x22 = 0 then some ((-1), S) else b1 (fX11_within S v3 0 9) fun x23 => (if x23 = 0 then some ((-1), S) else b1 (fX11_within S v4 0 99) fun x24 => (if x24 = 0 then some ((-1), S) else (if gI_ S 37 4 < 12 then b1 (fX9_add S v1 v2 v3 v4) fun q25 => some (q25.1, q25.2) else some ((-3), S))))))
def fX4_doesFor (S : St) (v1 : Int32) (v2 : Int32) : Option Int32 :=
  b1 (rI_ S 43 8 v2) fun x21 => b1 (rI_ S 38 12 v1) fun x22 => b1 (rI_ S 39 12 v1) fun x23 => b1 (fX7_isOf S x21 x22 x23) fun x24 => (if x24 = 0 then some 0 else b1 (rI_ S 40 12 v1) fun x25 => b1 (rI_ S 25 8 x21) fun x26 => (if x25 < x26 then some 0 else b1 (rI_ S 41 12 v1) fun x27 => b1 (rI_ S 44 8 v2) fun x28 => (if x27 < x28 then some 0 else some 1)))
def bX4_servedBy_4 (S : St) (v1 : Int32) (v22 : Int32) (v23 : Int32) : Option ((Int32 × Int32) ⊕ ((Int32))) :=
  (if gI_ S 42 5 ≤ v23 then some (.inr v22) else b1 (fX4_doesFor S v1 v23) fun x24 => (if x24 = 0 then some (.inl (v22, v23 + 1)) else some (.inl (v22 + 1, v23 + 1))))
def fX4_servedBy (S : St) (v1 : Int32) : Option Int32 :=
  b1 (lp (fun w21 : Int32 × Int32 => bX4_servedBy_4 S v1 w21.1 w21.2) 5000 (0, 0)) fun u27 => some u27
def fX11_stored (S : St) (v1 : Int32) (v2 : Int32) : Option Int32 :=
  b1 (fX11_within S v1 0 ((gI_ S 37 4) - 1)) fun x21 => (if x21 = 0 then some (-1) else (if v2 = 0 then b1 (rI_ S 38 12 v1) fun x22 => some x22 else (if v2 = 1 then b1 (rI_ S 39 12 v1) fun x24 => some x24 else (if v2 = 2 then b1 (rI_ S 40 12 v1) fun x26 => some x26 else (if v2 = 3 then b1 (rI_ S 41 12 v1) fun x28 => some x28 else (if v2 = 4 then b1 (fX4_servedBy S v1) fun x30 => some x30 else some (-1)))))))
def bX11_age_2  (v22 : Int32) (S23 : St) : Option ((Int32 × St) ⊕ ((St))) :=
  (if gI_ S23 37 4 ≤ v22 then some (.inr S23) else b1 (rI_ S23 41 12 v22) fun x24 => b1 (wI_ S23 41 12 v22 (mmin_ 99 (x24 + 1))) fun S25 => some (.inl (v22 + 1, S25)))
def fX11_age (S : St) : Option (Int32 × St) :=
  b1 (lp (fun w21 : Int32 × St => bX11_age_2  w21.1 w21.2) 5000 (0, S)) fun u27 => some (gI_ u27 37 4, u27)
def fX4_add (S : St) (v1 : Int32) (v2 : Int32) (v3 : Int32) : Option (Int32 × St) :=
  b1 (wI_ S 43 8 (gI_ S 42 5) v1) fun S21 => b1 (wI_ S21 44 8 (gI_ S21 42 5) v2) fun S22 => b1 (wI_ S22 45 8 (gI_ S22 42 5) v3) fun S23 => b1 (oI_ S23 42 5 ((gI_ S23 42 5) + 1)) fun S24 => some ((gI_ S24 42 5) - 1, S24)
def fX11_order (S : St) (v1 : Int32) (v2 : Int32) (v3 : Int32) : Option (Int32 × St) :=
  b1 (fX7_has S v1) fun x21 => (if x21 = 0 then some ((-1), S) else b1 (fX11_within S v2 0 99) fun x22 => (if x22 = 0 then some ((-1), S) else b1 (fX11_within S v3 1 1000) fun x23 => (if x23 = 0 then some ((-1), S) else (if gI_ S 42 5 < 8 then b1 (fX4_add S v1 v2 v3) fun q24 => some (q24.1, q24.2) else some ((-3), S)))))
def bX4_findSuiting_19 (v22 : Int32) (v26 : Int32) (S27 : St) : Option ((Int32 × St) ⊕ ((St))) :=
  (if gI_ S27 37 4 ≤ v26 then some (.inr S27) else b1 (fX4_doesFor S27 v26 v22) fun x28 => (if x28 = 0 then some (.inl (v26 + 1, S27)) else b1 (rI_ S27 47 8 v22) fun x29 => b1 (wI_ S27 47 8 v22 (x29 ||| ((1 : Int32) <<< ((v26 : Int32) &&& 31)))) fun S30 => some (.inl (v26 + 1, S30))))
def bX4_findSuiting_2  (v22 : Int32) (S23 : St) : Option ((Int32 × St) ⊕ ((St))) :=
  (if gI_ S23 42 5 ≤ v22 then some (.inr S23) else b1 (wI_ S23 47 8 v22 0) fun S24 => b1 (lp (fun w25 : Int32 × St => bX4_findSuiting_19 v22 w25.1 w25.2) 5000 (0, S24)) fun u33 => some (.inl (v22 + 1, u33)))
def fX4_findSuiting (S : St) : Option St :=
  b1 (lp (fun w21 : Int32 × St => bX4_findSuiting_2  w21.1 w21.2) 5000 (0, S)) fun u35 => some u35
def bX4_bestPaid_7 (S : St) (v1 : Int32) (v22 : Int32) (v23 : Int32) (v24 : Int32) : Option ((Int32 × Int32 × Int32) ⊕ ((Int32))) :=
  (if gI_ S 42 5 ≤ v24 then some (.inr v22) else (if ((v1 : Int32) >>> ((v24 : Int32) &&& 31)) &&& 1 = 1 then b1 (rI_ S 45 8 v24) fun x25 => (if x25 ≤ v23 then some (.inl (v22, v23, v24 + 1)) else b1 (rI_ S 45 8 v24) fun x26 => some (.inl (v24, x26, v24 + 1))) else some (.inl (v22, v23, v24 + 1))))
def fX4_bestPaid (S : St) (v1 : Int32) : Option Int32 :=
  b1 (lp (fun w21 : Int32 × Int32 × Int32 => bX4_bestPaid_7 S v1 w21.1 w21.2.1 w21.2.2) 5000 (0, 0, 0)) fun u30 => some u30
def bX4_makeRoom_10 (rec_ : St → Int32 → Int32 → Option (Int32 × St)) (v1 : Int32) (v2 : Int32) (v22 : Int32) (S23 : St) : Option ((Int32 × St) ⊕ ((Int32 × St) ⊕ (Int32 × St))) :=
  (if gI_ S23 37 4 ≤ v22 then some (.inr (.inr (0, S23))) else b1 (rI_ S23 47 8 v1) fun x24 => (if (x24 &&& (gI_ S23 42 9)) &&& ((1 : Int32) <<< ((v22 : Int32) &&& 31)) = 0 then some (.inl (v22 + 1, S23)) else (if (gI_ S23 42 10) &&& ((1 : Int32) <<< ((v22 : Int32) &&& 31)) = 0 then b1 (oI_ S23 42 10 ((gI_ S23 42 10) ||| ((1 : Int32) <<< ((v22 : Int32) &&& 31)))) fun S25 => b1 (rI_ S25 48 12 v22) fun x26 => (if x26 = (-4) then some (.inr (.inl (v22, S25))) else b1 (rI_ S25 48 12 v22) fun x27 => b1 (rec_ S25 x27 (v2 + 1)) fun q28 => (if q28.1 = 0 then some (.inl (v22 + 1, q28.2)) else some (.inr (.inl (v22, q28.2))))) else some (.inl (v22 + 1, S23)))))
def fX4_makeRoom : Nat → St → Int32 → Int32 → Option (Int32 × St)
  | 0, _, _, _ => none
  | n + 1, S, v1, v2 =>
  (if v2 < 8 then bs (lp (fun w21 : Int32 × St => bX4_makeRoom_10 (fX4_makeRoom n) v1 v2 w21.1 w21.2) 5000 (0, S)) (fun u34 => b1 (wI_ u34.2 48 12 u34.1 v1) fun S35 => some (1, S35)) (fun rr => some rr) else some (0, S))
def bX4_bestSum_2  (v22 : Int32) (S23 : St) : Option ((Int32 × St) ⊕ ((St))) :=
  (if 12 ≤ v22 then some (.inr S23) else b1 (wI_ S23 48 12 v22 (-4)) fun S24 => some (.inl (v22 + 1, S24)))
def bX4_bestSum_35  (v29 : Int32) (v30 : Int32) (v31 : Int32) (S32 : St) : Option ((Int32 × Int32 × Int32 × St) ⊕ ((Int32 × St))) :=
  (if 8 ≤ v31 then some (.inr (v29, S32)) else (if v30 = 0 then some (.inr (v29, S32)) else b1 (fX4_bestPaid S32 v30) fun x33 => b1 (some (v30 &&& (((1 : Int32) <<< ((x33 : Int32) &&& 31)) ^^^ (-1)))) fun x34 => b1 (oI_ S32 42 10 0) fun S35 => b1 (fX4_makeRoom 9 S35 x33 0) fun q36 => (if q36.1 = 0 then some (.inl (v29, x34, v31 + 1, q36.2)) else b1 (rI_ q36.2 45 8 x33) fun x37 => some (.inl (v29 + x37, x34, v31 + 1, q36.2)))))
def fX4_bestSum (S : St) (v1 : Int32) (v2 : Int32) : Option (Int32 × St) :=
  b1 (lp (fun w21 : Int32 × St => bX4_bestSum_2  w21.1 w21.2) 5000 (0, S)) fun u26 => b1 (oI_ u26 42 9 v2) fun S27 => b1 (lp (fun w28 : Int32 × Int32 × Int32 × St => bX4_bestSum_35  w28.1 w28.2.1 w28.2.2.1 w28.2.2.2) 5000 (0, v1, 0, S27)) fun u41 => some (u41.1, u41.2)
def bX4_leastBlock_3 (v1 : Int32) (v2 : Int32) (v3 : Int32) (v4 : Int32) (v22 : Int32) (S23 : St) : Option ((Int32 × St) ⊕ ((St) ⊕ (Int32 × St))) :=
  (if gI_ S23 37 4 ≤ v22 then some (.inr (.inl S23)) else b1 (rI_ S23 47 8 v1) fun x24 => b1 ((if (x24 &&& v3) &&& ((1 : Int32) <<< ((v22 : Int32) &&& 31)) = 0 then some 0 else some 1) : Option (Int32)) fun w25 => (if w25 = 0 then some (.inl (v22 + 1, S23)) else b1 (rI_ S23 45 8 v1) fun x26 => b1 (fX4_bestSum S23 v2 (v3 &&& (((1 : Int32) <<< ((v22 : Int32) &&& 31)) ^^^ (-1)))) fun q27 => (if x26 + q27.1 = v4 then some (.inr (.inr (v22, q27.2))) else some (.inl (v22 + 1, q27.2)))))
def fX4_leastBlock (S : St) (v1 : Int32) (v2 : Int32) (v3 : Int32) (v4 : Int32) : Option (Int32 × St) :=
  bs (lp (fun w21 : Int32 × St => bX4_leastBlock_3 v1 v2 v3 v4 w21.1 w21.2) 5000 (0, S)) (fun u32 => some ((-4), u32)) (fun rr => some rr)
def bX4_fill_38  (v26 : Int32) (v27 : Int32) (v28 : Int32) (v29 : Int32) (S30 : St) : Option ((Int32 × Int32 × Int32 × Int32 × St) ⊕ ((St))) :=
  (if gI_ S30 42 5 ≤ v29 then some (.inr S30) else b1 (some (v26 &&& (((1 : Int32) <<< ((v29 : Int32) &&& 31)) ^^^ (-1)))) fun x31 => b1 (fX4_leastBlock S30 v29 x31 v27 v28) fun q32 => b1 (wI_ q32.2 46 8 v29 q32.1) fun S33 => b1 (rI_ S33 46 8 v29) fun x34 => (if x34 = (-4) then some (.inl (x31, v27, v28, v29 + 1, S33)) else b1 (rI_ S33 46 8 v29) fun x35 => b1 (some (v27 &&& (((1 : Int32) <<< ((x35 : Int32) &&& 31)) ^^^ (-1)))) fun x36 => b1 (rI_ S33 45 8 v29) fun x37 => some (.inl (x31, x36, v28 - x37, v29 + 1, S33))))
def fX4_fill (S : St) : Option (Int32 × St) :=
  b1 (fX4_findSuiting S) fun S21 => b1 (some (((1 : Int32) <<< ((gI_ S21 42 5 : Int32) &&& 31)) - 1)) fun x22 => b1 (some (((1 : Int32) <<< ((gI_ S21 37 4 : Int32) &&& 31)) - 1)) fun x23 => b1 (fX4_bestSum S21 x22 x23) fun q24 => b1 (lp (fun w25 : Int32 × Int32 × Int32 × Int32 × St => bX4_fill_38  w25.1 w25.2.1 w25.2.2.1 w25.2.2.2.1 w25.2.2.2.2) 5000 (x22, x23, q24.1, 0, q24.2)) fun u40 => some (q24.1, u40)
def bX4_givenBlocks_4 (S : St) (v22 : Int32) (v23 : Int32) : Option ((Int32 × Int32) ⊕ ((Int32))) :=
  (if gI_ S 42 5 ≤ v23 then some (.inr v22) else b1 (rI_ S 46 8 v23) fun x24 => (if x24 = (-4) then some (.inl (v22, v23 + 1)) else b1 (rI_ S 46 8 v23) fun x25 => b1 (some (v22 ||| ((1 : Int32) <<< ((x25 : Int32) &&& 31)))) fun x26 => some (.inl (x26, v23 + 1))))
def fX4_givenBlocks (S : St) : Option Int32 :=
  b1 (lp (fun w21 : Int32 × Int32 => bX4_givenBlocks_4 S w21.1 w21.2) 5000 (0, 0)) fun u29 => some u29
def fX11_filled (S : St) (v1 : Int32) : Option (Int32 × St) :=
  b1 (fX11_within S v1 10 (9 + (gI_ S 42 5))) fun x21 => b1 (fX11_within S v1 0 1) fun x22 => bs ((if x22 = 0 then (if x21 = 0 then some (.inr ((-1), S)) else some (.inl ())) else some (.inl ())) : Option ((Unit) ⊕ (Int32 × St))) (fun w23 => b1 (fX4_fill S) fun q24 => (if x21 = 0 then (if v1 = 0 then some (q24.1, q24.2) else b1 (fX4_givenBlocks q24.2) fun x25 => b1 (fJ6_bitCount_0f7a4 q24.2 x25) fun x26 => some (x26, q24.2)) else b1 (rI_ q24.2 46 8 (v1 - 10)) fun x28 => some (x28, q24.2))) (fun r32 => some r32)
def bX9_remove_12 (S : St) (v1 : Int32) (v23 : Int32) (S24 : St) : Option ((Int32 × St) ⊕ ((St))) :=
  (if gI_ S 37 4 ≤ v23 then some (.inr S24) else (if ((v1 : Int32) >>> ((v23 : Int32) &&& 31)) &&& 1 = 0 then b1 (rI_ S24 38 12 v23) fun x25 => b1 (rI_ S24 39 12 v23) fun x26 => b1 (rI_ S24 40 12 v23) fun x27 => b1 (rI_ S24 41 12 v23) fun x28 => b1 (fX9_add S24 x25 x26 x27 x28) fun q29 => some (.inl (v23 + 1, q29.2)) else some (.inl (v23 + 1, S24))))
def fX9_remove (S : St) (v1 : Int32) : Option St :=
  b1 (oI_ S 37 4 0) fun S21 => b1 (lp (fun w22 : Int32 × St => bX9_remove_12 S v1 w22.1 w22.2) 5000 (0, S21)) fun u32 => some u32
def bX4_removeFilled_12 (S : St) (v23 : Int32) (S24 : St) : Option ((Int32 × St) ⊕ ((St))) :=
  (if gI_ S 42 5 ≤ v23 then some (.inr S24) else b1 (rI_ S24 46 8 v23) fun x25 => (if x25 = (-4) then b1 (rI_ S24 43 8 v23) fun x26 => b1 (rI_ S24 44 8 v23) fun x27 => b1 (rI_ S24 45 8 v23) fun x28 => b1 (fX4_add S24 x26 x27 x28) fun q29 => some (.inl (v23 + 1, q29.2)) else some (.inl (v23 + 1, S24))))
def fX4_removeFilled (S : St) : Option St :=
  b1 (oI_ S 42 5 0) fun S21 => b1 (lp (fun w22 : Int32 × St => bX4_removeFilled_12 S w22.1 w22.2) 5000 (0, S21)) fun u32 => some u32
def fX11_deliver (S : St) : Option (Int32 × St) :=
  b1 (fX4_fill S) fun q21 => b1 (fX4_givenBlocks q21.2) fun x22 => b1 (fX9_remove q21.2 x22) fun S23 => b1 (fX4_removeFilled S23) fun S24 => some (q21.1, S24)
def fX11_gains (S : St) (v1 : Int32) (v2 : Int32) : Option (Int32 × St) :=
  b1 (fX7_has S v1) fun x21 => (if x21 = 0 then some ((-1000000), S) else b1 (fX11_within S v2 1 500) fun x22 => (if x22 = 0 then some ((-1000000), S) else b1 (fX11_mostWith S (gL_ S 1 2)) fun q23 => b1 (rI_ q23.2 24 8 v1) fun x24 => b1 (wI_ q23.2 24 8 v1 v2) fun S25 => b1 (fX11_mostWith S25 (gL_ S25 1 2)) fun q26 => b1 (wI_ q26.2 24 8 v1 x24) fun S27 => some (q26.1 - q23.1, S27)))
def fX5_add (S : St) (v1 : Int32) (v2 : Int32) (v3 : Int32) (v4 : Int32) : Option (Int32 × St) :=
  b1 (wI_ S 50 12 (gI_ S 49 6) v1) fun S21 => b1 (wI_ S21 53 12 (gI_ S21 49 6) v2) fun S22 => b1 (wI_ S22 54 12 (gI_ S22 49 6) v3) fun S23 => b1 (wI_ S23 55 12 (gI_ S23 49 6) v4) fun S24 => b1 (oI_ S24 49 6 ((gI_ S24 49 6) + 1)) fun S25 => some ((gI_ S25 49 6) - 1, S25)
def fX5_judge (S : St) (v1 : Int32) (v2 : Int32) (v3 : Int32) (v4 : Int32) : Option St :=
  b1 (wI_ S 51 12 v1 ((((v2 + v3) + v4) - (mmax_ v2 (mmax_ v3 v4))) - (mmin_ v2 (mmin_ v3 v4)))) fun S21 => (if 1 < (mmax_ v2 (mmax_ v3 v4)) - (mmin_ v2 (mmin_ v3 v4)) then b1 (wI_ S21 52 12 v1 0) fun S22 => some S22 else b1 (wI_ S21 52 12 v1 1) fun S23 => some S23)
def fX11_pipe (S : St) (v1 : Int32) (v2 : Int32) (v3 : Int32) (v4 : Int32) (v5 : Int32) (v6 : Int32) (v7 : Int32) : Option (Int32 × St) :=
  b1 (fX11_within S v1 0 5) fun x21 => (if x21 = 0 then some ((-1), S) else b1 (fX11_within S v5 0 255) fun x22 => (if x22 = 0 then some ((-1), S) else b1 (fX11_within S v6 (-50) 50) fun x23 => (if x23 = 0 then some ((-1), S) else b1 (fX11_within S v7 0 7) fun x24 => (if x24 = 0 then some ((-1), S) else b1 (fX11_within S v2 0 5) fun x25 => (if x25 = 0 then some ((-1), S) else b1 (fX11_within S v3 0 5) fun x26 => (if x26 = 0 then some ((-1), S) else b1 (fX11_within S v4 0 5) fun x27 => (if x27 = 0 then some ((-1), S) else (if gI_ S 49 6 < 12 then b1 (fX5_add S v1 v5 v6 v7) fun q28 => b1 (fX5_judge q28.2 q28.1 v2 v3 v4) fun S29 => some (q28.1, S29) else some ((-3), S)))))))))
def fX5_has (S : St) (v1 : Int32) : Option Int32 :=
  b1 (fX11_within S v1 0 ((gI_ S 49 6) - 1)) fun x21 => b1 (bz_ x21) fun z22 => some z22
def bX3_seller_5 (k0 : Nat) (S : St) (v2 : Int32) (v22 : Int32) (v23 : Int32) : Option ((Int32 × Int32) ⊕ ((Unit) ⊕ Int32)) :=
  (if 8 ≤ v23 then some (.inr (.inl ())) else (if v22 = (-4) then some (.inr (.inl ())) else b1 (rI_ S (k0 + 4) 8 v22) fun x24 => (if v2 < x24 then b1 (rI_ S (k0 + 5) 8 v22) fun x25 => some (.inl (x25, v23 + 1)) else some (.inr (.inr v22)))))
def fX3_seller (k0 : Nat) (S : St) (v1 : Int32) (v2 : Int32) : Option Int32 :=
  bs (lp (fun w21 : Int32 × Int32 => bX3_seller_5 k0 S v2 w21.1 w21.2) 5000 (v1, 0)) (fun u29 => some (-4)) (fun rr => some rr)
def bX3_stepsToSell_8 (k0 : Nat) (S : St) (v2 : Int32) (v22 : Int32) (v23 : Int32) (v24 : Int32) : Option ((Int32 × Int32 × Int32) ⊕ ((Int32) ⊕ Int32)) :=
  (if 8 ≤ v24 then some (.inr (.inl v23)) else b1 (rI_ S (k0 + 4) 8 v22) fun x25 => (if x25 ≤ v2 then some (.inr (.inr v23)) else b1 (rI_ S (k0 + 5) 8 v22) fun x26 => (if x26 = (-4) then some (.inr (.inr v23)) else b1 (rI_ S (k0 + 5) 8 v22) fun x27 => some (.inl (x27, v23 + 1, v24 + 1)))))
def fX3_stepsToSell (k0 : Nat) (S : St) (v1 : Int32) (v2 : Int32) : Option Int32 :=
  bs (lp (fun w21 : Int32 × Int32 × Int32 => bX3_stepsToSell_8 k0 S v2 w21.1 w21.2.1 w21.2.2) 5000 (v1, 0, 0)) (fun u31 => some u31) (fun rr => some rr)
def fX11_told (S : St) (v1 : Int32) (v2 : Int32) : Option Int32 :=
  b1 (fX5_has S v1) fun x21 => (if x21 = 0 then some (-100) else (if v2 = 0 then b1 (rI_ S 50 12 v1) fun x22 => some x22 else (if v2 = 1 then b1 (rI_ S 51 12 v1) fun x24 => some x24 else (if v2 = 2 then b1 (rI_ S 52 12 v1) fun x26 => some x26 else (if v2 = 3 then b1 (rI_ S 53 12 v1) fun x28 => some x28 else (if v2 = 4 then b1 (rI_ S 54 12 v1) fun x30 => some x30 else (if v2 = 5 then b1 (rI_ S 55 12 v1) fun x32 => some x32 else (if v2 = 6 then b1 (okL_ (gR_ S 0 11)) fun k34 => b1 (rI_ S 55 12 v1) fun x35 => b1 (rI_ S 51 12 v1) fun x36 => b1 (fX3_seller k34 S x35 x36) fun x37 => some x37 else (if v2 = 7 then b1 (okL_ (gR_ S 0 11)) fun k39 => b1 (rI_ S 55 12 v1) fun x40 => b1 (rI_ S 51 12 v1) fun x41 => b1 (fX3_stepsToSell k39 S x40 x41) fun x42 => some x42 else some (-100))))))))))
def bX10_append_3 (v1 : Int64) (v22 : Int32) (S23 : St) : Option ((Int32 × St) ⊕ ((St))) :=
  (if v22 < 0 then some (.inr S23) else (if 200 ≤ gI_ S23 56 1 then some (.inr S23) else b1 (wI_ S23 57 200 (gI_ S23 56 1) ((((v1 : Int64) >>> ((v22 : Int32).toInt64 &&& 63)) &&& 255 : Int64).toInt32)) fun S24 => b1 (oI_ S24 56 1 ((gI_ S24 56 1) + 1)) fun S25 => some (.inl (v22 + (-8), S25))))
def fX10_append (S : St) (v1 : Int64) : Option St :=
  b1 (lp (fun w21 : Int32 × St => bX10_append_3 v1 w21.1 w21.2) 5000 (56, S)) fun u28 => some u28
def fX11_feed (S : St) (v1 : Int64) : Option (Int32 × St) :=
  (if (gI_ S 56 1) + 8 ≤ 200 then b1 (fX10_append S v1) fun S21 => some (gI_ S21 56 1, S21) else some ((-3), S))
def fX11_end (S : St) (v1 : Int32) : Option (Int32 × St) :=
  b1 (fX11_within S v1 0 (gI_ S 56 1)) fun x21 => (if x21 = 0 then some ((-1), S) else b1 (oI_ S 56 1 v1) fun S22 => some (gI_ S 56 1, S22))
def bX3_forget_2 (k0 : Nat) (v22 : Int32) (S23 : St) : Option ((Int32 × St) ⊕ ((St))) :=
  (if 8 ≤ v22 then some (.inr S23) else b1 (wI_ S23 (k0 + 1) 8 v22 1800) fun S24 => b1 (wI_ S24 (k0 + 2) 8 v22 2000) fun S25 => b1 (wI_ S25 (k0 + 3) 8 v22 0) fun S26 => some (.inl (v22 + 1, S26)))
def bX3_forget_41 (k0 : Nat) (v30 : Int32) (S31 : St) : Option ((Int32 × St) ⊕ ((St))) :=
  (if 8 ≤ v30 then some (.inr S31) else b1 (wI_ S31 (k0 + 4) 8 v30 0) fun S32 => b1 (wI_ S32 (k0 + 5) 8 v30 (-4)) fun S33 => some (.inl (v30 + 1, S33)))
def fX3_forget (k0 : Nat) (S : St) : Option St :=
  b1 (lp (fun w21 : Int32 × St => bX3_forget_2 k0 w21.1 w21.2) 5000 (0, S)) fun u28 => b1 (lp (fun w29 : Int32 × St => bX3_forget_41 k0 w29.1 w29.2) 5000 (0, u28)) fun u35 => b1 (oI_ u35 k0 5 5) fun S36 => b1 (oI_ S36 k0 6 0) fun S37 => b1 (oI_ S37 k0 7 0) fun S38 => b1 (oI_ S38 k0 8 0) fun S39 => b1 (oI_ S39 k0 9 0) fun S40 => some S40
def bX10_endOfToken_66 (S : St) (v26 : Int32) : Option ((Int32) ⊕ ((Int32))) :=
  (if gI_ S 56 1 ≤ v26 then some (.inr v26) else b1 (rI_ S 57 200 v26) fun x27 => b1 (fX11_within S x27 97 122) fun x28 => (if x28 = 0 then some (.inr v26) else some (.inl (v26 + 1))))
def bX10_endOfToken_20 (S : St) (v34 : Int32) : Option ((Int32) ⊕ ((Int32))) :=
  (if gI_ S 56 1 ≤ v34 then some (.inr v34) else b1 (rI_ S 57 200 v34) fun x35 => b1 (fX11_within S x35 48 57) fun x36 => (if x36 = 0 then some (.inr v34) else some (.inl (v34 + 1))))
def bX10_endOfToken_66b (S : St) (v43 : Int32) : Option ((Int32) ⊕ ((Int32))) :=
  (if gI_ S 56 1 ≤ v43 then some (.inr v43) else b1 (rI_ S 57 200 v43) fun x44 => b1 (fX11_within S x44 97 122) fun x45 => (if x45 = 0 then some (.inr v43) else some (.inl (v43 + 1))))
def fX10_endOfToken (S : St) (v1 : Int32) : Option Int32 :=
  b1 (rI_ S 57 200 v1) fun x21 => b1 (fX11_within S x21 48 57) fun x22 => (if x22 = 0 then b1 (rI_ S 57 200 v1) fun x23 => b1 (fX11_within S x23 97 122) fun x24 => (if x24 = 0 then some (v1 + 1) else b1 (lp (fun w25 : Int32 => bX10_endOfToken_66 S w25) 5000 (v1 + 1)) fun u31 => some u31) else b1 (lp (fun w33 : Int32 => bX10_endOfToken_20 S w33) 5000 (v1 + 1)) fun u39 => b1 (rI_ S 57 200 v1) fun x40 => b1 (fX11_within S x40 97 122) fun x41 => (if x41 = 0 then some u39 else b1 (lp (fun w42 : Int32 => bX10_endOfToken_66b S w42) 5000 u39) fun u48 => some u48))
def bX10_spells_15 (k1 : Nat) (S : St) (v2 : Int32) (v23 : Int32) : Option ((Int32) ⊕ ((Unit) ⊕ Int32)) :=
  b1 (slen_ k1) fun x24 => (if x24 ≤ v23 then some (.inr (.inl ())) else b1 (rI_ S 57 200 (v2 + v23)) fun x25 => b1 (schar_ k1 v23) fun x26 => (if x25 = x26 then some (.inl (v23 + 1)) else some (.inr (.inr 0))))
def fX10_spells (k1 : Nat) (S : St) (v2 : Int32) (v3 : Int32) : Option Int32 :=
  b1 (slen_ k1) fun x21 => (if v3 - v2 = x21 then bs (lp (fun w22 : Int32 => bX10_spells_15 k1 S v2 w22) 5000 0) (fun u29 => some 1) (fun rr => some rr) else some 0)
def fX10_wordKind (S : St) (v1 : Int32) (v2 : Int32) : Option Int32 :=
  b1 (fX10_spells 0 S v1 v2) fun x21 => (if x21 = 0 then b1 (fX10_spells 1 S v1 v2) fun x22 => (if x22 = 0 then b1 (fX10_spells 2 S v1 v2) fun x23 => (if x23 = 0 then b1 (fX10_spells 3 S v1 v2) fun x24 => (if x24 = 0 then b1 (fX10_spells 4 S v1 v2) fun x25 => (if x25 = 0 then some 1 else some 9) else some 8) else some 7) else some 6) else some 5)
def fX10_kindOf (S : St) (v1 : Int32) (v2 : Int32) : Option Int32 :=
  b1 (rI_ S 57 200 v1) fun x21 => b1 (fX11_within S x21 65 72) fun x22 => (if x22 = 0 then b1 (fX11_within S x21 48 57) fun x23 => (if x23 = 0 then b1 (fX11_within S x21 97 122) fun x24 => (if x24 = 0 then (if x21 = 59 then some 4 else some 1) else b1 (fX10_wordKind S v1 v2) fun x26 => some x26) else (if v2 - v1 ≤ 4 then some 3 else some 1)) else some 2)
def bX10_valueOf_31 (S : St) (v2 : Int32) (v24 : Int32) (v25 : Int32) : Option ((Int32 × Int32) ⊕ ((Int32))) :=
  (if v2 ≤ v25 then some (.inr v24) else b1 (rI_ S 57 200 v25) fun x26 => b1 (fX11_within S x26 48 57) fun x27 => (if x27 = 0 then some (.inr v24) else b1 (rI_ S 57 200 v25) fun x28 => some (.inl (((v24 * 10) + x28) - 48, v25 + 1))))
def fX10_valueOf (S : St) (v1 : Int32) (v2 : Int32) : Option Int32 :=
  b1 (rI_ S 57 200 v1) fun x21 => b1 (fX11_within S x21 65 72) fun x22 => (if x22 = 0 then b1 (lp (fun w23 : Int32 × Int32 => bX10_valueOf_31 S v2 w23.1 w23.2) 5000 (0, v1)) fun u31 => some u31 else b1 (rI_ S 57 200 v1) fun x32 => some (x32 - 65))
def fX10_note (S : St) (v1 : Int32) (v2 : Int32) (v3 : Int32) : Option St :=
  b1 (wI_ S 58 201 (gI_ S 56 5) v1) fun S21 => b1 (wI_ S21 59 201 (gI_ S21 56 5) v2) fun S22 => b1 (wI_ S22 60 201 (gI_ S22 56 5) v3) fun S23 => b1 (oI_ S23 56 5 ((gI_ S23 56 5) + 1)) fun S24 => some S24
def bX10_split_9  (v23 : Int32) (v24 : Int32) (S25 : St) : Option ((Int32 × Int32 × St) ⊕ ((St))) :=
  (if 200 ≤ v24 then some (.inr S25) else (if gI_ S25 56 1 ≤ v23 then some (.inr S25) else b1 (fX10_endOfToken S25 v23) fun x26 => b1 (rI_ S25 57 200 v23) fun x27 => (if x27 = 32 then some (.inl (x26, v24 + 1, S25)) else b1 (fX10_kindOf S25 v23 x26) fun x28 => b1 (fX10_valueOf S25 v23 x26) fun x29 => b1 (fX10_note S25 x28 x29 v23) fun S30 => some (.inl (x26, v24 + 1, S30)))))
def fX10_split (S : St) : Option St :=
  b1 (oI_ S 56 5 0) fun S21 => b1 (lp (fun w22 : Int32 × Int32 × St => bX10_split_9  w22.1 w22.2.1 w22.2.2) 5000 (0, 0, S21)) fun u34 => b1 (fX10_note u34 0 0 (gI_ u34 56 1)) fun S35 => some S35
def fX2_advance (S : St) : Option St :=
  b1 (rI_ S 58 201 (gI_ S 61 1)) fun x21 => b1 (oI_ S 61 2 x21) fun S22 => b1 (rI_ S22 59 201 (gI_ S22 61 1)) fun x23 => b1 (oI_ S22 61 3 x23) fun S24 => b1 (rI_ S24 60 201 (gI_ S24 61 1)) fun x25 => b1 (oI_ S24 61 4 x25) fun S26 => (if (gI_ S26 56 5) - 1 ≤ gI_ S26 61 1 then some S26 else b1 (oI_ S26 61 1 ((gI_ S26 61 1) + 1)) fun S27 => some S27)
def fX2_fail (S : St) (v1 : Int32) : Option (Int32 × St) :=
  b1 (oI_ S 61 5 v1) fun S21 => b1 (oI_ S21 61 6 (gI_ S21 61 4)) fun S22 => some (0, S22)
def fX2_expect (S : St) (v1 : Int32) : Option (Int32 × St) :=
  b1 (fX2_advance S) fun S21 => (if gI_ S21 61 2 = 1 then b1 (fX2_fail S21 1) fun q25 => b1 (bz_ q25.1) fun z26 => some (z26, q25.2) else (if gI_ S21 61 2 = v1 then some (1, S21) else b1 (fX2_fail S21 2) fun q22 => (if q22.1 = 0 then some (0, q22.2) else some (1, q22.2))))
def fX2_expectNumber (S : St) (v1 : Int32) (v2 : Int32) : Option (Int32 × St) :=
  b1 (fX2_expect S 3) fun q21 => (if q21.1 = 0 then some (0, q21.2) else b1 (fX11_within q21.2 (gI_ q21.2 61 3) v1 v2) fun x22 => (if x22 = 0 then b1 (fX2_fail q21.2 3) fun q23 => (if q23.1 = 0 then some (0, q23.2) else some (1, q23.2)) else some (1, q21.2)))
def fX3_hasStamp (k0 : Nat) (S : St) (v1 : Int32) : Option Int32 :=
  (if ((gI_ S k0 7 : Int32) >>> ((v1 : Int32) &&& 31)) &&& 1 = 1 then some 1 else some 0)
def fX3_tellStamp (k0 : Nat) (S : St) (v1 : Int32) (v2 : Int32) (v3 : Int32) : Option St :=
  b1 (wI_ S (k0 + 1) 8 v1 v2) fun S21 => b1 (wI_ S21 (k0 + 2) 8 v1 v3) fun S22 => b1 (oI_ S22 k0 7 ((gI_ S22 k0 7) ||| ((1 : Int32) <<< ((v1 : Int32) &&& 31)))) fun S23 => some S23
def fX2_readStamp (k1 : Nat) (S : St) : Option (Int32 × St) :=
  b1 (fX2_expectNumber S 0 7) fun q21 => (if q21.1 = 0 then some (0, q21.2) else b1 (fX3_hasStamp k1 q21.2 (gI_ q21.2 61 3)) fun x22 => (if x22 = 0 then b1 (fX2_expectNumber q21.2 1800 2000) fun q23 => (if q23.1 = 0 then some (0, q23.2) else b1 (fX2_expectNumber q23.2 (gI_ q23.2 61 3) 2000) fun q24 => (if q24.1 = 0 then some (0, q24.2) else b1 (fX3_tellStamp k1 q24.2 (gI_ q21.2 61 3) (gI_ q23.2 61 3) (gI_ q24.2 61 3)) fun S25 => some (1, S25))) else b1 (fX2_fail q21.2 4) fun q28 => b1 (bz_ q28.1) fun z29 => some (z29, q28.2)))
def fX3_tellBar (k0 : Nat) (S : St) (v1 : Int32) (v2 : Int32) : Option St :=
  b1 (rI_ S (k0 + 3) 8 v1) fun x21 => b1 (wI_ S (k0 + 3) 8 v1 (x21 ||| ((1 : Int32) <<< ((v2 : Int32) &&& 31)))) fun S22 => b1 (rI_ S22 (k0 + 3) 8 v2) fun x23 => b1 (wI_ S22 (k0 + 3) 8 v2 (x23 ||| ((1 : Int32) <<< ((v1 : Int32) &&& 31)))) fun S24 => some S24
def fX2_readBar (k1 : Nat) (S : St) : Option (Int32 × St) :=
  b1 (fX2_expectNumber S 0 7) fun q21 => (if q21.1 = 0 then some (0, q21.2) else b1 (fX2_expectNumber q21.2 0 7) fun q22 => (if q22.1 = 0 then some (0, q22.2) else (if gI_ q22.2 61 3 = gI_ q21.2 61 3 then b1 (fX2_fail q22.2 3) fun q24 => b1 (bz_ q24.1) fun z25 => some (z25, q24.2) else b1 (fX3_tellBar k1 q22.2 (gI_ q21.2 61 3) (gI_ q22.2 61 3)) fun S23 => some (1, S23))))
def fX3_tellLimit (k0 : Nat) (S : St) (v1 : Int32) : Option St :=
  b1 (oI_ S k0 5 v1) fun S21 => b1 (oI_ S21 k0 9 1) fun S22 => some S22
def fX2_readLimit (k1 : Nat) (S : St) : Option (Int32 × St) :=
  (if gI_ S k1 9 = 0 then b1 (fX2_expectNumber S 0 50) fun q21 => (if q21.1 = 0 then some (0, q21.2) else b1 (fX3_tellLimit k1 q21.2 (gI_ q21.2 61 3)) fun S22 => some (1, S22)) else b1 (fX2_fail S 4) fun q24 => b1 (bz_ q24.1) fun z25 => some (z25, q24.2))
def fX3_hasLeast (k0 : Nat) (S : St) (v1 : Int32) : Option Int32 :=
  (if ((gI_ S k0 8 : Int32) >>> ((v1 : Int32) &&& 31)) &&& 1 = 1 then some 1 else some 0)
def fX3_tellLeast (k0 : Nat) (S : St) (v1 : Int32) (v2 : Int32) : Option St :=
  b1 (wI_ S (k0 + 4) 8 v1 v2) fun S21 => b1 (oI_ S21 k0 8 ((gI_ S21 k0 8) ||| ((1 : Int32) <<< ((v1 : Int32) &&& 31)))) fun S22 => some S22
def fX2_readLeast (k1 : Nat) (S : St) : Option (Int32 × St) :=
  b1 (fX2_expect S 2) fun q21 => (if q21.1 = 0 then some (0, q21.2) else b1 (fX3_hasLeast k1 q21.2 (gI_ q21.2 61 3)) fun x22 => (if x22 = 0 then b1 (fX2_expectNumber q21.2 0 5) fun q23 => (if q23.1 = 0 then some (0, q23.2) else b1 (fX3_tellLeast k1 q23.2 (gI_ q21.2 61 3) (gI_ q23.2 61 3)) fun S24 => some (1, S24)) else b1 (fX2_fail q21.2 4) fun q26 => b1 (bz_ q26.1) fun z27 => some (z27, q26.2)))
def fX3_hasSecond (k0 : Nat) (S : St) (v1 : Int32) : Option Int32 :=
  b1 (rI_ S (k0 + 5) 8 v1) fun x21 => (if x21 = (-4) then some 0 else some 1)
def bX3_leadsTo_5 (k0 : Nat) (S : St) (v2 : Int32) (v22 : Int32) (v23 : Int32) : Option ((Int32 × Int32) ⊕ ((Unit) ⊕ Int32)) :=
  (if 8 ≤ v23 then some (.inr (.inl ())) else (if v22 = (-4) then some (.inr (.inl ())) else (if v22 = v2 then some (.inr (.inr 1)) else b1 (rI_ S (k0 + 5) 8 v22) fun x24 => some (.inl (x24, v23 + 1)))))
def fX3_leadsTo (k0 : Nat) (S : St) (v1 : Int32) (v2 : Int32) : Option Int32 :=
  bs (lp (fun w21 : Int32 × Int32 => bX3_leadsTo_5 k0 S v2 w21.1 w21.2) 5000 (v1, 0)) (fun u28 => some 0) (fun rr => some rr)
def fX2_readSecond (k1 : Nat) (S : St) : Option (Int32 × St) :=
  b1 (fX2_expect S 2) fun q21 => (if q21.1 = 0 then some (0, q21.2) else b1 (fX3_hasSecond k1 q21.2 (gI_ q21.2 61 3)) fun x22 => (if x22 = 0 then b1 (fX2_expect q21.2 2) fun q23 => (if q23.1 = 0 then some (0, q23.2) else b1 (fX3_leadsTo k1 q23.2 (gI_ q23.2 61 3) (gI_ q21.2 61 3)) fun x24 => (if x24 = 0 then b1 (wI_ q23.2 (k1 + 5) 8 (gI_ q21.2 61 3) (gI_ q23.2 61 3)) fun S25 => some (1, S25) else b1 (fX2_fail q23.2 5) fun q26 => b1 (bz_ q26.1) fun z27 => some (z27, q26.2))) else b1 (fX2_fail q21.2 4) fun q30 => b1 (bz_ q30.1) fun z31 => some (z31, q30.2)))
def fX2_readLaw (k1 : Nat) (S : St) : Option (Int32 × St) :=
  b1 (fX2_advance S) fun S21 => (if gI_ S21 61 2 = 0 then some (0, S21) else (if gI_ S21 61 2 = 1 then b1 (fX2_fail S21 1) fun q22 => (if q22.1 = 0 then some (0, q22.2) else b1 (fX2_expect q22.2 4) fun q23 => (if q23.1 = 0 then some (0, q23.2) else b1 (oI_ q23.2 k1 6 ((gI_ q23.2 k1 6) + 1)) fun S24 => some (1, S24))) else (if gI_ S21 61 2 = 2 then b1 (fX2_fail S21 2) fun q28 => (if q28.1 = 0 then some (0, q28.2) else b1 (fX2_expect q28.2 4) fun q29 => (if q29.1 = 0 then some (0, q29.2) else b1 (oI_ q29.2 k1 6 ((gI_ q29.2 k1 6) + 1)) fun S30 => some (1, S30))) else (if gI_ S21 61 2 = 3 then b1 (fX2_fail S21 2) fun q34 => (if q34.1 = 0 then some (0, q34.2) else b1 (fX2_expect q34.2 4) fun q35 => (if q35.1 = 0 then some (0, q35.2) else b1 (oI_ q35.2 k1 6 ((gI_ q35.2 k1 6) + 1)) fun S36 => some (1, S36))) else (if gI_ S21 61 2 = 4 then b1 (fX2_fail S21 2) fun q40 => (if q40.1 = 0 then some (0, q40.2) else b1 (fX2_expect q40.2 4) fun q41 => (if q41.1 = 0 then some (0, q41.2) else b1 (oI_ q41.2 k1 6 ((gI_ q41.2 k1 6) + 1)) fun S42 => some (1, S42))) else (if gI_ S21 61 2 = 5 then b1 (fX2_readStamp k1 S21) fun q46 => (if q46.1 = 0 then some (0, q46.2) else b1 (fX2_expect q46.2 4) fun q47 => (if q47.1 = 0 then some (0, q47.2) else b1 (oI_ q47.2 k1 6 ((gI_ q47.2 k1 6) + 1)) fun S48 => some (1, S48))) else (if gI_ S21 61 2 = 6 then b1 (fX2_readBar k1 S21) fun q52 => (if q52.1 = 0 then some (0, q52.2) else b1 (fX2_expect q52.2 4) fun q53 => (if q53.1 = 0 then some (0, q53.2) else b1 (oI_ q53.2 k1 6 ((gI_ q53.2 k1 6) + 1)) fun S54 => some (1, S54))) else (if gI_ S21 61 2 = 7 then b1 (fX2_readLimit k1 S21) fun q58 => (if q58.1 = 0 then some (0, q58.2) else b1 (fX2_expect q58.2 4) fun q59 => (if q59.1 = 0 then some (0, q59.2) else b1 (oI_ q59.2 k1 6 ((gI_ q59.2 k1 6) + 1)) fun S60 => some (1, S60))) else (if gI_ S21 61 2 = 8 then b1 (fX2_readLeast k1 S21) fun q64 => (if q64.1 = 0 then some (0, q64.2) else b1 (fX2_expect q64.2 4) fun q65 => (if q65.1 = 0 then some (0, q65.2) else b1 (oI_ q65.2 k1 6 ((gI_ q65.2 k1 6) + 1)) fun S66 => some (1, S66))) else (if gI_ S21 61 2 = 9 then b1 (fX2_readSecond k1 S21) fun q70 => (if q70.1 = 0 then some (0, q70.2) else b1 (fX2_expect q70.2 4) fun q71 => (if q71.1 = 0 then some (0, q71.2) else b1 (oI_ q71.2 k1 6 ((gI_ q71.2 k1 6) + 1)) fun S72 => some (1, S72))) else b1 (fX2_fail S21 2) fun q76 => (if q76.1 = 0 then some (0, q76.2) else b1 (fX2_expect q76.2 4) fun q77 => (if q77.1 = 0 then some (0, q77.2) else b1 (oI_ q77.2 k1 6 ((gI_ q77.2 k1 6) + 1)) fun S78 => some (1, S78)))))))))))))
def bX2_read_30 (k1 : Nat) (v27 : Int32) (v28 : Int32) (S29 : St) : Option ((Int32 × Int32 × St) ⊕ ((St))) :=
  (if 200 < v28 then some (.inr S29) else (if v27 = 0 then some (.inr S29) else b1 (fX2_readLaw k1 S29) fun q30 => some (.inl (q30.1, v28 + 1, q30.2))))
def fX2_read (k1 : Nat) (S : St) : Option St :=
  b1 (fX3_forget k1 S) fun S21 => b1 (oI_ S21 61 5 0) fun S22 => b1 (oI_ S22 61 6 0) fun S23 => b1 (oI_ S23 61 1 0) fun S24 => b1 (fX10_split S24) fun S25 => b1 (lp (fun w26 : Int32 × Int32 × St => bX2_read_30 k1 w26.1 w26.2.1 w26.2.2) 5000 (1, 0, S25)) fun u33 => some u33
def fX11_laws (S : St) : Option (Int32 × St) :=
  b1 (okL_ (gR_ S 0 12)) fun k21 => b1 (fX2_read k21 S) fun S22 => b1 (oI_ S22 56 1 0) fun S23 => (if gI_ S23 61 5 = 0 then b1 (okL_ (gR_ S23 0 11)) fun k24 => b1 (okL_ (gR_ S23 0 12)) fun k25 => b1 (oR_ S23 0 11 k25) fun S26 => b1 (oR_ S26 0 12 k24) fun S27 => b1 (okL_ (gR_ S27 0 11)) fun k28 => some (gI_ S27 k28 6, S27) else some ((-10) - (gI_ S23 61 6), S23))
def fX11_fault (S : St) : Option Int32 :=
  some (gI_ S 61 5)
def fX11_stamp (S : St) (v1 : Int32) (v2 : Int32) : Option Int32 :=
  b1 (fX11_within S v1 0 7) fun x21 => (if x21 = 0 then some (-1) else (if v2 = 0 then b1 (okL_ (gR_ S 0 11)) fun k22 => b1 (rI_ S (k22 + 1) 8 v1) fun x23 => some x23 else (if v2 = 1 then b1 (okL_ (gR_ S 0 11)) fun k25 => b1 (rI_ S (k25 + 2) 8 v1) fun x26 => some x26 else (if v2 = 2 then b1 (okL_ (gR_ S 0 11)) fun k28 => b1 (rI_ S (k28 + 3) 8 v1) fun x29 => some x29 else some (-1)))))
def fX11_name (S : St) (v1 : Int32) (v2 : Int32) : Option Int32 :=
  b1 (fX11_within S v1 0 7) fun x21 => (if x21 = 0 then some (-1) else (if v2 = 0 then b1 (okL_ (gR_ S 0 11)) fun k22 => b1 (rI_ S (k22 + 4) 8 v1) fun x23 => some x23 else (if v2 = 1 then b1 (okL_ (gR_ S 0 11)) fun k25 => b1 (rI_ S (k25 + 5) 8 v1) fun x26 => some x26 else (if v2 = 2 then b1 (okL_ (gR_ S 0 11)) fun k28 => b1 (fX3_stepsToSell k28 S v1 (-1)) fun x29 => some x29 else some (-1)))))
def bX3_clash_2 (k0 : Nat) (S : St) (v1 : Int32) (v22 : Int32) : Option ((Int32) ⊕ ((Unit) ⊕ Int32)) :=
  (if 8 ≤ v22 then some (.inr (.inl ())) else (if ((v1 : Int32) >>> ((v22 : Int32) &&& 31)) &&& 1 = 1 then b1 (rI_ S (k0 + 3) 8 v22) fun x23 => (if x23 &&& v1 = 0 then some (.inl (v22 + 1)) else some (.inr (.inr 1))) else some (.inl (v22 + 1))))
def fX3_clash (k0 : Nat) (S : St) (v1 : Int32) : Option Int32 :=
  bs (lp (fun w21 : Int32 => bX3_clash_2 k0 S v1 w21) 5000 0) (fun u27 => some 0) (fun rr => some rr)
def bX3_lastYear_6 (k0 : Nat) (S : St) (v1 : Int32) (v22 : Int32) (v23 : Int32) : Option ((Int32 × Int32) ⊕ ((Int32))) :=
  (if 8 ≤ v23 then some (.inr v22) else (if ((v1 : Int32) >>> ((v23 : Int32) &&& 31)) &&& 1 = 1 then b1 (rI_ S (k0 + 2) 8 v23) fun x24 => some (.inl (mmin_ v22 x24, v23 + 1)) else some (.inl (v22, v23 + 1))))
def fX3_lastYear (k0 : Nat) (S : St) (v1 : Int32) : Option Int32 :=
  b1 (lp (fun w21 : Int32 × Int32 => bX3_lastYear_6 k0 S v1 w21.1 w21.2) 5000 (2000, 0)) fun u27 => some u27
def bX3_firstYear_6 (k0 : Nat) (S : St) (v1 : Int32) (v22 : Int32) (v23 : Int32) : Option ((Int32 × Int32) ⊕ ((Int32))) :=
  (if 8 ≤ v23 then some (.inr v22) else (if ((v1 : Int32) >>> ((v23 : Int32) &&& 31)) &&& 1 = 1 then b1 (rI_ S (k0 + 1) 8 v23) fun x24 => some (.inl (mmax_ v22 x24, v23 + 1)) else some (.inl (v22, v23 + 1))))
def fX3_firstYear (k0 : Nat) (S : St) (v1 : Int32) : Option Int32 :=
  b1 (lp (fun w21 : Int32 × Int32 => bX3_firstYear_6 k0 S v1 w21.1 w21.2) 5000 (1800, 0)) fun u27 => some u27
def fX3_yearCount (k0 : Nat) (S : St) (v1 : Int32) : Option Int32 :=
  b1 (fX3_clash k0 S v1) fun x21 => (if x21 = 0 then b1 (fX3_lastYear k0 S v1) fun x22 => b1 (fX3_firstYear k0 S v1) fun x23 => some (mmax_ 0 ((x22 - x23) + 1)) else some 0)
def fX11_years (S : St) (v1 : Int32) (v2 : Int32) : Option Int32 :=
  b1 (fX5_has S v1) fun x21 => (if x21 = 0 then some (-1) else b1 (fX11_within S v2 0 2) fun x22 => (if x22 = 0 then some (-1) else b1 (rI_ S 53 12 v1) fun x23 => b1 (okL_ (gR_ S 0 11)) fun k24 => b1 (fX3_yearCount k24 S x23) fun x25 => (if v2 = 0 then some x25 else (if x25 = 0 then some (-4) else (if v2 = 1 then b1 (okL_ (gR_ S 0 11)) fun k28 => b1 (fX3_firstYear k28 S x23) fun x29 => some x29 else b1 (okL_ (gR_ S 0 11)) fun k26 => b1 (fX3_lastYear k26 S x23) fun x27 => some x27)))))
def fX3_mayBeOf (k0 : Nat) (S : St) (v1 : Int32) (v2 : Int32) : Option Int32 :=
  b1 (fX3_clash k0 S v1) fun x21 => (if x21 = 0 then b1 (fX3_firstYear k0 S v1) fun x22 => b1 (fX3_lastYear k0 S v1) fun x23 => b1 (fX11_within S v2 x22 x23) fun x24 => (if x24 = 0 then some 0 else some 1) else some 0)
def bX11_dated_19 (S : St) (v1 : Int32) (v23 : Int32) (v24 : Int32) : Option ((Int32 × Int32) ⊕ ((Int32))) :=
  (if gI_ S 49 6 ≤ v24 then some (.inr v23) else b1 (okL_ (gR_ S 0 11)) fun k25 => b1 (rI_ S 53 12 v24) fun x26 => b1 (fX3_mayBeOf k25 S x26 v1) fun x27 => (if x27 = 0 then some (.inl (v23, v24 + 1)) else some (.inl (v23 + 1, v24 + 1))))
def fX11_dated (S : St) (v1 : Int32) : Option Int32 :=
  b1 (fX11_within S v1 1800 2000) fun x21 => (if x21 = 0 then some (-1) else b1 (lp (fun w22 : Int32 × Int32 => bX11_dated_19 S v1 w22.1 w22.2) 5000 (0, 0)) fun u30 => some u30)
def bX5_howMany_4 (S : St) (v1 : Int32) (v22 : Int32) (v23 : Int32) : Option ((Int32 × Int32) ⊕ ((Int32))) :=
  (if gI_ S 49 6 ≤ v23 then some (.inr v22) else b1 (rI_ S 50 12 v23) fun x24 => (if x24 = v1 then some (.inl (v22 + 1, v23 + 1)) else some (.inl (v22, v23 + 1))))
def fX5_howMany (S : St) (v1 : Int32) : Option Int32 :=
  b1 (lp (fun w21 : Int32 × Int32 => bX5_howMany_4 S v1 w21.1 w21.2) 5000 (0, 0)) fun u27 => some u27
def bX5_sumIn_5 (k1 : Nat) (S : St) (v2 : Int32) (v22 : Int32) (v23 : Int32) : Option ((Int32 × Int32) ⊕ ((Int32))) :=
  (if gI_ S 49 6 ≤ v23 then some (.inr v22) else b1 (rI_ S 50 12 v23) fun x24 => (if x24 = v2 then b1 (rI_ S k1 12 v23) fun x25 => some (.inl (v22 + x25, v23 + 1)) else some (.inl (v22, v23 + 1))))
def fX5_sumIn (k1 : Nat) (S : St) (v2 : Int32) : Option Int32 :=
  b1 (lp (fun w21 : Int32 × Int32 => bX5_sumIn_5 k1 S v2 w21.1 w21.2) 5000 (0, 0)) fun u28 => some u28
def fX5_distanceOff (S : St) (v1 : Int32) : Option Int32 :=
  b1 (fX5_sumIn 54 S v1) fun x21 => some (mabs_ x21)
def fX5_isOff (S : St) (v1 : Int32) (v2 : Int32) : Option Int32 :=
  b1 (fX5_howMany S v1) fun x21 => (if x21 < 2 then some 0 else b1 (fX5_distanceOff S v1) fun x22 => (if x22 ≤ v2 * x21 then some 0 else some 1))
def bX5_longestRun_10 (S : St) (v1 : Int32) (v22 : Int32) (v23 : Int32) (v24 : Int32) (v25 : Int32) : Option ((Int32 × Int32 × Int32 × Int32) ⊕ ((Int32))) :=
  (if gI_ S 49 6 ≤ v25 then some (.inr v22) else b1 (rI_ S 50 12 v25) fun x26 => (if x26 = v1 then b1 (rI_ S 54 12 v25) fun x27 => b1 ((if x27 ≤ 0 then some 0 else some (v23 + 1)) : Option (Int32)) fun w28 => b1 (rI_ S 54 12 v25) fun x29 => b1 ((if 0 ≤ x29 then some 0 else some (v24 + 1)) : Option (Int32)) fun w30 => some (.inl (mmax_ v22 (mmax_ w28 w30), w28, w30, v25 + 1)) else some (.inl (v22, v23, v24, v25 + 1))))
def fX5_longestRun (S : St) (v1 : Int32) : Option Int32 :=
  b1 (lp (fun w21 : Int32 × Int32 × Int32 × Int32 => bX5_longestRun_10 S v1 w21.1 w21.2.1 w21.2.2.1 w21.2.2.2) 5000 (0, 0, 0, 0)) fun u35 => some u35
def fX11_lot (S : St) (v1 : Int32) (v2 : Int32) : Option Int32 :=
  b1 (fX11_within S v1 0 5) fun x21 => (if x21 = 0 then some (-10000) else (if v2 = 0 then b1 (fX5_howMany S v1) fun x22 => some x22 else (if v2 = 1 then b1 (fX5_sumIn 54 S v1) fun x24 => some x24 else (if v2 = 2 then b1 (fX5_sumIn 51 S v1) fun x26 => some x26 else (if v2 = 3 then b1 (fX5_sumIn 52 S v1) fun x28 => some x28 else (if v2 = 4 then b1 (okL_ (gR_ S 0 11)) fun k30 => b1 (fX5_isOff S v1 (gI_ S k30 5)) fun x31 => (if x31 = 0 then some 0 else some 1) else (if v2 = 5 then b1 (fX5_longestRun S v1) fun x34 => some x34 else some (-10000))))))))
def fX5_isWorse (S : St) (v1 : Int32) (v2 : Int32) : Option Int32 :=
  b1 (fX5_distanceOff S v1) fun x21 => b1 (fX5_howMany S v2) fun x22 => b1 (fX5_distanceOff S v2) fun x23 => b1 (fX5_howMany S v1) fun x24 => (if x21 * x22 ≤ x23 * x24 then some 0 else some 1)
def bX11_worst_5 (S : St) (v22 : Int32) (v23 : Int32) : Option ((Int32 × Int32) ⊕ ((Int32))) :=
  (if 6 ≤ v23 then some (.inr v22) else b1 (okL_ (gR_ S 0 11)) fun k24 => b1 (fX5_isOff S v23 (gI_ S k24 5)) fun x25 => (if x25 = 0 then some (.inl (v22, v23 + 1)) else (if v22 = (-4) then some (.inl (v23, v23 + 1)) else b1 (fX5_isWorse S v23 v22) fun x26 => (if x26 = 0 then some (.inl (v22, v23 + 1)) else some (.inl (v23, v23 + 1))))))
def fX11_worst (S : St) : Option Int32 :=
  b1 (lp (fun w21 : Int32 × Int32 => bX11_worst_5 S w21.1 w21.2) 5000 ((-4), 0)) fun u31 => some u31
def bX8_renew_12 (k0 : Nat) (v24 : Int32) (S25 : St) : Option ((Int32 × St) ⊕ ((St))) :=
  (if 64 ≤ v24 then some (.inr S25) else b1 (wI_ S25 (k0 + 1) 64 v24 0) fun S26 => some (.inl (v24 + 1, S26)))
def fX8_renew (k0 : Nat) (S : St) (v1 : Int32) (v2 : Int32) : Option St :=
  b1 (oI_ S k0 0 v1) fun S21 => b1 (oI_ S21 k0 1 v2) fun S22 => b1 (lp (fun w23 : Int32 × St => bX8_renew_12 k0 w23.1 w23.2) 5000 (0, S22)) fun u28 => some u28
def fX11_sheet (S : St) (v1 : Int32) (v2 : Int32) (v3 : Int32) : Option (Int32 × St) :=
  b1 (fX11_within S v1 0 3) fun x21 => (if x21 = 0 then some ((-1), S) else b1 (fX11_within S v2 0 2) fun x22 => (if x22 = 0 then some ((-1), S) else (if v3 ≤ 64 then (if 0 ≤ v3 then b1 (rR_ 4 (fun i => 75 + 2 * i) v1) fun k23 => b1 (fX8_renew k23 S v2 v3) fun S24 => some (1, S24) else some ((-14), S)) else some ((-1), S))))
def fX8_isNothing (k0 : Nat) (S : St) : Option Int32 :=
  (if gI_ S k0 0 = (-1) then some 1 else some 0)
def fX8_has (k0 : Nat) (S : St) (v1 : Int32) : Option Int32 :=
  b1 (fX11_within S v1 0 ((gI_ S k0 1) - 1)) fun x21 => b1 (bz_ x21) fun z22 => some z22
def fX8_put (k0 : Nat) (S : St) (v1 : Int32) (v2 : Int32) : Option St :=
  (if gI_ S k0 0 = 0 then b1 (wI_ S (k0 + 1) 64 v1 ((v2 : Int32).toInt8.toInt32)) fun S24 => some S24 else (if gI_ S k0 0 = 1 then b1 (wI_ S (k0 + 1) 64 v1 ((v2 : Int32).toInt16.toInt32)) fun S22 => some S22 else b1 (wI_ S (k0 + 1) 64 v1 v2) fun S21 => some S21))
def fX11_lay (S : St) (v1 : Int32) (v2 : Int32) (v3 : Int32) : Option (Int32 × St) :=
  b1 (fX11_within S v1 0 3) fun x21 => (if x21 = 0 then some ((-1), S) else b1 (rR_ 4 (fun i => 75 + 2 * i) v1) fun k22 => b1 (fX8_isNothing k22 S) fun x23 => (if x23 = 0 then b1 (fX8_has k22 S v2) fun x24 => (if x24 = 0 then some ((-12), S) else b1 (fX8_put k22 S v2 v3) fun S25 => some (1, S25)) else some ((-11), S)))
def bX11_refusalOf_19 (k1 : Nat) (S : St) (v2 : Int32) (v22 : Int32) : Option ((Int32) ⊕ ((Unit) ⊕ Int32)) :=
  (if (gI_ S 1 0) * (gI_ S 1 1) ≤ v22 then some (.inr (.inl ())) else b1 (fX8_has k1 S (v2 + v22)) fun x23 => (if x23 = 0 then some (.inr (.inr (-12))) else b1 (rI_ S (k1 + 1) 64 (v2 + v22)) fun x24 => b1 (fX11_within S x24 0 10) fun x25 => (if x25 = 0 then some (.inr (.inr ((-100) - v22))) else some (.inl (v22 + 1)))))
def fX11_refusalOf (k1 : Nat) (S : St) (v2 : Int32) : Option Int32 :=
  bs (lp (fun w21 : Int32 => bX11_refusalOf_19 k1 S v2 w21) 5000 0) (fun u29 => some 0) (fun rr => some rr)
def bX11_copyOnBoard_20 (k1 : Nat) (v23 : Int32) (v26 : Int32) (v27 : Int32) (S28 : St) : Option ((Int32 × Int32 × St) ⊕ ((Int32 × St))) :=
  (if gI_ S28 1 0 ≤ v27 then some (.inr (v26, S28)) else b1 (rI_ S28 (k1 + 1) 64 v26) fun x29 => b1 ((if x29 = 10 then some 1 else some 0) : Option (Int32)) fun w30 => b1 (fX11_squareAt S28 v27 v23) fun x31 => b1 ((if w30 = 0 then b1 (rI_ S28 (k1 + 1) 64 v26) fun x36 => some x36 else some 0) : Option (Int32)) fun w32 => b1 (wI_ S28 2 64 x31 w32) fun S33 => b1 (fX11_withBit S33 (gL_ S33 1 2) v27 v23 w30) fun x34 => b1 (oL_ S33 1 2 x34) fun S35 => some (.inl (v26 + 1, v27 + 1, S35)))
def bX11_copyOnBoard_5 (k1 : Nat) (v22 : Int32) (v23 : Int32) (S24 : St) : Option ((Int32 × Int32 × St) ⊕ ((St))) :=
  (if gI_ S24 1 1 ≤ v23 then some (.inr S24) else b1 (lp (fun w25 : Int32 × Int32 × St => bX11_copyOnBoard_20 k1 v23 w25.1 w25.2.1 w25.2.2) 5000 (v22, 0, S24)) fun u40 => some (.inl (u40.1, v23 + 1, u40.2)))
def fX11_copyOnBoard (k1 : Nat) (S : St) (v2 : Int32) : Option St :=
  b1 (lp (fun w21 : Int32 × Int32 × St => bX11_copyOnBoard_5 k1 w21.1 w21.2.1 w21.2.2) 5000 (v2, 0, S)) fun u42 => some u42
def fJ13_bitCount_95d88 (S : St) (v0 : Int64) : Option Int32 :=
  b1 (some (v0 - ((((v0 : Int64).toUInt64 >>> ((1 : Int32).toInt64.toUInt64 &&& Int64.toUInt64 63)).toInt64) &&& 6148914691236517205))) fun x21 => b1 (some ((x21 &&& 3689348814741910323) + ((((x21 : Int64).toUInt64 >>> ((2 : Int32).toInt64.toUInt64 &&& Int64.toUInt64 63)).toInt64) &&& 3689348814741910323))) fun x22 => b1 (some ((x22 + (((x22 : Int64).toUInt64 >>> ((4 : Int32).toInt64.toUInt64 &&& Int64.toUInt64 63)).toInt64)) &&& 1085102592571150095)) fun x23 => b1 (some (x23 + (((x23 : Int64).toUInt64 >>> ((8 : Int32).toInt64.toUInt64 &&& Int64.toUInt64 63)).toInt64))) fun x24 => b1 (some (x24 + (((x24 : Int64).toUInt64 >>> ((16 : Int32).toInt64.toUInt64 &&& Int64.toUInt64 63)).toInt64))) fun x25 => b1 (some (x25 + (((x25 : Int64).toUInt64 >>> ((32 : Int32).toInt64.toUInt64 &&& Int64.toUInt64 63)).toInt64))) fun x26 => some (((x26 : Int64).toInt32) &&& 127)
def fX11_draw (S : St) (v1 : Int32) (v2 : Int32) (v3 : Int32) : Option (Int32 × St) :=
  b1 (fX11_within S v1 0 3) fun x21 => (if x21 = 0 then some ((-1), S) else b1 (fX11_within S v2 0 2) fun x22 => (if x22 = 0 then some ((-1), S) else b1 (rR_ 4 (fun i => 75 + 2 * i) v1) fun k23 => b1 (fX8_isNothing k23 S) fun x24 => (if x24 = 0 then (if gI_ S k23 0 = v2 then b1 (fX11_refusalOf k23 S v3) fun x25 => (if x25 = 0 then b1 (fX0_keep 1 S) fun S26 => b1 (fX11_copyOnBoard k23 S26 v3) fun S27 => b1 (fJ13_bitCount_95d88 S27 (gL_ S27 1 2)) fun x28 => some (x28, S27) else some (x25, S)) else some ((-13), S)) else some ((-11), S))))
def bX11_lotsOff_4 (S : St) (v22 : Int32) (v23 : Int32) : Option ((Int32 × Int32) ⊕ ((Int32))) :=
  (if 6 ≤ v23 then some (.inr v22) else b1 (okL_ (gR_ S 0 11)) fun k24 => b1 (fX5_isOff S v23 (gI_ S k24 5)) fun x25 => (if x25 = 0 then some (.inl (v22, v23 + 1)) else some (.inl (v22 + 1, v23 + 1))))
def fX11_lotsOff (S : St) : Option Int32 :=
  b1 (lp (fun w21 : Int32 × Int32 => bX11_lotsOff_4 S w21.1 w21.2) 5000 (0, 0)) fun u28 => some u28
def bX11_soldOn_4 (S : St) (v22 : Int32) (v23 : Int32) : Option ((Int32 × Int32) ⊕ ((Int32))) :=
  (if gI_ S 49 6 ≤ v23 then some (.inr v22) else b1 (okL_ (gR_ S 0 11)) fun k24 => b1 (rI_ S 55 12 v23) fun x25 => b1 (rI_ S 51 12 v23) fun x26 => b1 (fX3_seller k24 S x25 x26) fun x27 => (if x27 = (-4) then some (.inl (v22, v23 + 1)) else b1 (rI_ S 55 12 v23) fun x28 => (if x27 = x28 then some (.inl (v22, v23 + 1)) else some (.inl (v22 + 1, v23 + 1)))))
def fX11_soldOn (S : St) : Option Int32 :=
  b1 (lp (fun w21 : Int32 × Int32 => bX11_soldOn_4 S w21.1 w21.2) 5000 (0, 0)) fun u32 => some u32
def fX11_count (S : St) (v1 : Int32) : Option Int32 :=
  (if v1 = 0 then some (gI_ S 21 5) else (if v1 = 1 then some (gI_ S 49 6) else (if v1 = 2 then b1 (fJ13_bitCount_95d88 S (gL_ S 1 2)) fun x23 => some x23 else (if v1 = 3 then some ((gI_ S 1 0) * (gI_ S 1 1)) else (if v1 = 4 then b1 (fX11_lotsOff S) fun x26 => some x26 else (if v1 = 5 then b1 (rR_ 4 (fun i => 75 + 2 * i) 0) fun k28 => b1 (fX8_isNothing k28 S) fun x29 => (if x29 = 0 then b1 (rR_ 4 (fun i => 75 + 2 * i) 0) fun k30 => some (gI_ S k30 1) else some (-4)) else (if v1 = 6 then some (gI_ S 0 5) else (if v1 = 7 then some (gI_ S 37 4) else (if v1 = 8 then some (gI_ S 42 5) else (if v1 = 9 then some (gI_ S 3 2) else (if v1 = 10 then b1 (okL_ (gR_ S 0 11)) fun k37 => some (gI_ S k37 6) else (if v1 = 11 then b1 (okL_ (gR_ S 0 11)) fun k39 => some (gI_ S k39 5) else (if v1 = 12 then b1 (fX11_soldOn S) fun x41 => some x41 else some (-1))))))))))))))
def fX12_in (S : St) (v0 : Int64) (v2 : Int64) (v4 : Int64) : Option Int32 :=
  (if lg_cmp v0 v2 < 0 then some 0 else (if 0 < lg_cmp v0 v4 then some 0 else some 1))
def fX12_isSquare (S : St) (v1 : Int32) (v2 : Int32) : Option Int32 :=
  b1 (fX12_in S ((v1 : Int32).toInt64) 0 (((gI_ S 0 0) - 1 : Int32).toInt64)) fun x21 => (if x21 = 0 then some 0 else b1 (fX12_in S ((v2 : Int32).toInt64) 0 (((gI_ S 0 1) - 1 : Int32).toInt64)) fun x22 => (if x22 = 0 then some 0 else some 1))
def fX12_isBlock (S : St) (v1 : Int32) (v2 : Int32) (v3 : Int32) (v4 : Int32) : Option Int32 :=
  b1 (fX12_isSquare S v1 v2) fun x21 => (if x21 = 0 then some 0 else b1 (fX12_in S ((v3 : Int32).toInt64) 1 (((gI_ S 0 0) - v1 : Int32).toInt64)) fun x22 => (if x22 = 0 then some 0 else b1 (fX12_in S ((v4 : Int32).toInt64) 1 (((gI_ S 0 1) - v2 : Int32).toInt64)) fun x23 => (if x23 = 0 then some 0 else some 1)))
def bX12_keeps_67  (v23 : Int32) (S24 : St) : Option ((Int32 × St) ⊕ ((St))) :=
  (if 64 ≤ v23 then some (.inr S24) else b1 (rI_ S24 1 64 v23) fun x25 => b1 (wZ_ S24 4 512 ((64 * (gI_ S24 0 6)) + v23) x25) fun S26 => b1 (rI_ S26 2 64 v23) fun x27 => b1 (wI_ S26 5 512 ((64 * (gI_ S26 0 6)) + v23) x27) fun S28 => some (.inl (v23 + 1, S28)))
def bX12_keeps_12  (v33 : Int32) (S34 : St) : Option ((Int32 × St) ⊕ ((St))) :=
  (if 512 ≤ v33 then some (.inr S34) else b1 (rI_ S34 4 512 v33) fun x35 => b1 (wZ_ S34 4 512 (v33 - 64) x35) fun S36 => b1 (rI_ S36 5 512 v33) fun x37 => b1 (wI_ S36 5 512 (v33 - 64) x37) fun S38 => some (.inl (v33 + 1, S38)))
def fX12_keeps (S : St) : Option St :=
  b1 ((if gI_ S 0 6 = 8 then b1 (lp (fun w32 : Int32 × St => bX12_keeps_12  w32.1 w32.2) 5000 (64, S)) fun u40 => b1 (oI_ u40 0 6 ((gI_ u40 0 6) - 1)) fun S41 => some S41 else some S) : Option (St)) fun w21 => b1 (lp (fun w22 : Int32 × St => bX12_keeps_67  w22.1 w22.2) 5000 (0, w21)) fun u30 => b1 (oI_ u30 0 6 ((gI_ u30 0 6) + 1)) fun S31 => some S31
def bX12_burl_48  (v28 : Int32) (S29 : St) : Option ((Int32 × St) ⊕ ((St))) :=
  (if 64 ≤ v28 then some (.inr S29) else b1 (wZ_ S29 1 64 v28 0) fun S30 => b1 (wI_ S30 2 64 v28 0) fun S31 => some (.inl (v28 + 1, S31)))
def fX12_burl (S : St) (v1 : Int32) (v2 : Int32) : Option (Int32 × St) :=
  b1 (fX12_in S ((v1 : Int32).toInt64) 1 8) fun x21 => (if x21 = 0 then some ((-1), S) else b1 (fX12_in S ((v2 : Int32).toInt64) 1 8) fun x22 => (if x22 = 0 then some ((-1), S) else b1 (oI_ S 0 0 v1) fun S23 => b1 (oI_ S23 0 1 v2) fun S24 => b1 (oI_ S24 0 4 0) fun S25 => b1 (oI_ S25 0 6 0) fun S26 => b1 (lp (fun w27 : Int32 × St => bX12_burl_48  w27.1 w27.2) 5000 (0, S26)) fun u33 => some (1, u33)))
def fX12_crack (S : St) (v1 : Int32) (v2 : Int32) (v3 : Int32) : Option (Int32 × St) :=
  b1 (fX12_isSquare S v1 v2) fun x21 => (if x21 = 0 then some ((-1), S) else b1 (fX12_keeps S) fun S22 => b1 (rI_ S22 1 64 ((8 * v2) + v1)) fun x23 => b1 ((if x23 = 0 then some 0 else some 1) : Option (Int32)) fun w24 => b1 (wZ_ S22 1 64 ((8 * v2) + v1) v3) fun S25 => some (w24, S25))
def fX12_grain (S : St) (v1 : Int32) (v2 : Int32) (v3 : Int32) : Option (Int32 × St) :=
  b1 (fX12_isSquare S v1 v2) fun x21 => (if x21 = 0 then some ((-1), S) else b1 (fX12_in S ((v3 : Int32).toInt64) 0 9) fun x22 => (if x22 = 0 then some ((-1), S) else b1 (fX12_keeps S) fun S23 => b1 (rI_ S23 2 64 ((8 * v2) + v1)) fun x24 => b1 (wI_ S23 2 64 ((8 * v2) + v1) v3) fun S25 => some (x24, S25)))
def bX12_undo_22  (v23 : Int32) (S24 : St) : Option ((Int32 × St) ⊕ ((St))) :=
  (if 64 ≤ v23 then some (.inr S24) else b1 (rI_ S24 4 512 ((64 * (gI_ S24 0 6)) + v23)) fun x25 => b1 (wZ_ S24 1 64 v23 x25) fun S26 => b1 (rI_ S26 5 512 ((64 * (gI_ S26 0 6)) + v23)) fun x27 => b1 (wI_ S26 2 64 v23 x27) fun S28 => some (.inl (v23 + 1, S28)))
def fX12_undo (S : St) : Option (Int32 × St) :=
  (if gI_ S 0 6 = 0 then some ((-4), S) else b1 (oI_ S 0 6 ((gI_ S 0 6) - 1)) fun S21 => b1 (lp (fun w22 : Int32 × St => bX12_undo_22  w22.1 w22.2) 5000 (0, S21)) fun u30 => some (gI_ u30 0 6, u30))
def fX12_isShape (S : St) (v1 : Int32) : Option Int32 :=
  b1 (fX12_in S ((v1 : Int32).toInt64) 0 (((gI_ S 0 9) - 1 : Int32).toInt64)) fun x21 => b1 (bz_ x21) fun z22 => some z22
def fX12_shape (S : St) (v1 : Int32) (v2 : Int32) (v3 : Int32) (v4 : Int32) (v5 : Int32) : Option (Int32 × St) :=
  b1 (fX12_in S ((v1 : Int32).toInt64) 1 8) fun x21 => (if x21 = 0 then some ((-1), S) else b1 (fX12_in S ((v2 : Int32).toInt64) 1 8) fun x22 => (if x22 = 0 then some ((-1), S) else b1 (fX12_in S ((v3 : Int32).toInt64) 1 500) fun x23 => (if x23 = 0 then some ((-1), S) else b1 (fX12_in S ((v4 : Int32).toInt64) 0 9) fun x24 => (if x24 = 0 then some ((-1), S) else (if gI_ S 0 9 = 8 then some ((-3), S) else b1 (wI_ S 6 8 (gI_ S 0 9) v1) fun S25 => b1 (wI_ S25 7 8 (gI_ S25 0 9) v2) fun S26 => b1 (wI_ S26 8 8 (gI_ S26 0 9) v3) fun S27 => b1 (wI_ S27 9 8 (gI_ S27 0 9) v4) fun S28 => b1 (wZ_ S28 10 8 (gI_ S28 0 9) v5) fun S29 => b1 (oI_ S29 0 9 ((gI_ S29 0 9) + 1)) fun S30 => some ((gI_ S30 0 9) - 1, S30))))))
def bX12_drop_12 (S : St) (v22 : Int32) : Option ((Int32) ⊕ ((Unit) ⊕ (Int32 × St))) :=
  (if gI_ S 0 22 ≤ v22 then some (.inr (.inl ())) else b1 (rI_ S 17 8 v22) fun x23 => (if x23 = (gI_ S 0 9) - 1 then some (.inr (.inr ((-2), S))) else some (.inl (v22 + 1))))
def fX12_drop (S : St) : Option (Int32 × St) :=
  (if gI_ S 0 9 = 0 then some ((-4), S) else bs (lp (fun w21 : Int32 => bX12_drop_12 S w21) 5000 0) (fun u26 => b1 (oI_ S 0 9 ((gI_ S 0 9) - 1)) fun S27 => some (gI_ S27 0 9, S27)) (fun rr => some rr))
def fX12_isOfSize (S : St) (v1 : Int32) (v2 : Int32) (v3 : Int32) : Option Int32 :=
  b1 (rI_ S 6 8 v1) fun x21 => bs ((if x21 = v2 then b1 (rI_ S 7 8 v1) fun x29 => (if x29 = v3 then some (.inr 1) else some (.inl ())) else some (.inl ())) : Option ((Unit) ⊕ Int32)) (fun w22 => b1 (rI_ S 10 8 v1) fun x23 => (if x23 = 0 then some 0 else b1 (rI_ S 6 8 v1) fun x24 => (if x24 = v3 then b1 (rI_ S 7 8 v1) fun x25 => (if x25 = v2 then some 1 else some 0) else some 0))) (fun r32 => some r32)
def bX12_leastGrain_19 (S : St) (v1 : Int32) (v3 : Int32) (v23 : Int32) (v25 : Int32) (v26 : Int32) : Option ((Int32 × Int32) ⊕ ((Int32))) :=
  (if v1 + v3 ≤ v26 then some (.inr v25) else b1 (rI_ S 2 64 ((8 * v23) + v26)) fun x27 => (if v25 ≤ x27 then some (.inl (v25, v26 + 1)) else b1 (rI_ S 2 64 ((8 * v23) + v26)) fun x28 => some (.inl (x28, v26 + 1))))
def bX12_leastGrain_7 (S : St) (v1 : Int32) (v2 : Int32) (v3 : Int32) (v4 : Int32) (v22 : Int32) (v23 : Int32) : Option ((Int32 × Int32) ⊕ ((Int32))) :=
  (if v2 + v4 ≤ v23 then some (.inr v22) else b1 (lp (fun w24 : Int32 × Int32 => bX12_leastGrain_19 S v1 v3 v23 w24.1 w24.2) 5000 (v22, v1)) fun u31 => some (.inl (u31, v23 + 1)))
def fX12_leastGrain (S : St) (v1 : Int32) (v2 : Int32) (v3 : Int32) (v4 : Int32) : Option Int32 :=
  b1 (lp (fun w21 : Int32 × Int32 => bX12_leastGrain_7 S v1 v2 v3 v4 w21.1 w21.2) 5000 (9, v2)) fun u33 => some u33
def bX12_isWhole_18 (S : St) (v1 : Int32) (v3 : Int32) (v5 : Int32) (v23 : Int32) (v25 : Int32) (v26 : Int32) : Option ((Int32 × Int32) ⊕ ((Int32))) :=
  (if v1 + v3 ≤ v26 then some (.inr v25) else (if v25 = 0 then some (.inl (0, v26 + 1)) else b1 (rI_ S 1 64 ((8 * v23) + v26)) fun x27 => (if x27 = 0 then (if v5 < 0 then some (.inl (1, v26 + 1)) else b1 (rI_ S 3 256 (((64 * v5) + (8 * v23)) + v26)) fun x28 => (if x28 = 0 then some (.inl (1, v26 + 1)) else some (.inl (0, v26 + 1)))) else some (.inl (0, v26 + 1)))))
def bX12_isWhole_6 (S : St) (v1 : Int32) (v2 : Int32) (v3 : Int32) (v4 : Int32) (v5 : Int32) (v22 : Int32) (v23 : Int32) : Option ((Int32 × Int32) ⊕ ((Int32))) :=
  (if v2 + v4 ≤ v23 then some (.inr v22) else b1 (lp (fun w24 : Int32 × Int32 => bX12_isWhole_18 S v1 v3 v5 v23 w24.1 w24.2) 5000 (v22, v1)) fun u34 => some (.inl (u34, v23 + 1)))
def fX12_isWhole (S : St) (v1 : Int32) (v2 : Int32) (v3 : Int32) (v4 : Int32) (v5 : Int32) : Option Int32 :=
  b1 (lp (fun w21 : Int32 × Int32 => bX12_isWhole_6 S v1 v2 v3 v4 v5 w21.1 w21.2) 5000 (1, v2)) fun u36 => b1 (bz_ u36) fun z37 => some z37
def fX12_doesFit (S : St) (v1 : Int32) (v2 : Int32) (v3 : Int32) (v4 : Int32) (v5 : Int32) (v6 : Int32) : Option Int32 :=
  b1 (fX12_isOfSize S v5 v3 v4) fun x21 => (if x21 = 0 then some 0 else b1 (fX12_leastGrain S v1 v2 v3 v4) fun x22 => b1 (rI_ S 9 8 v5) fun x23 => (if x22 < x23 then some 0 else b1 (fX12_isWhole S v1 v2 v3 v4 v6) fun x24 => (if x24 = 0 then some 0 else some 1)))
def fX12_fits (S : St) (v1 : Int32) (v2 : Int32) (v3 : Int32) (v4 : Int32) (v5 : Int32) : Option Int32 :=
  b1 (fX12_isBlock S v1 v2 v3 v4) fun x21 => (if x21 = 0 then some (-1) else b1 (fX12_isShape S v5) fun x22 => (if x22 = 0 then some (-1) else b1 (fX12_doesFit S v1 v2 v3 v4 v5 (-4)) fun x23 => (if x23 = 0 then some 0 else some 1)))
def bX12_isOpen_4 (S : St) (v1 : Int32) (v22 : Int32) (v23 : Int32) : Option ((Int32 × Int32) ⊕ ((Int32))) :=
  (if 4096 ≤ v23 then some (.inr v22) else (if v22 = 0 then b1 (fX12_isBlock S (v23 - v23 / 8 * 8) ((v23 / 8) - (v23 / 8) / 8 * 8) (((v23 / 64) - (v23 / 64) / 8 * 8) + 1) ((v23 / 512) + 1)) fun x24 => (if x24 = 0 then some (.inl (0, v23 + 1)) else b1 (fX12_isOfSize S v1 (((v23 / 64) - (v23 / 64) / 8 * 8) + 1) ((v23 / 512) + 1)) fun x25 => (if x25 = 0 then some (.inl (0, v23 + 1)) else b1 (fX12_doesFit S (v23 - v23 / 8 * 8) ((v23 / 8) - (v23 / 8) / 8 * 8) (((v23 / 64) - (v23 / 64) / 8 * 8) + 1) ((v23 / 512) + 1) v1 (-4)) fun x26 => (if x26 = 0 then some (.inl (0, v23 + 1)) else some (.inl (1, v23 + 1))))) else some (.inr v22)))
def fX12_isOpen (S : St) (v1 : Int32) : Option Int32 :=
  b1 (lp (fun w21 : Int32 × Int32 => bX12_isOpen_4 S v1 w21.1 w21.2) 5000 (0, 0)) fun u32 => b1 (bz_ u32) fun z33 => some z33
def bX12_open_4 (S : St) (v22 : Int32) (v23 : Int32) : Option ((Int32 × Int32) ⊕ ((Int32))) :=
  (if gI_ S 0 9 ≤ v23 then some (.inr v22) else b1 (fX12_isOpen S v23) fun x24 => (if x24 = 0 then some (.inl (v22 ||| 0, v23 + 1)) else b1 (some (v22 ||| ((1 : Int32) <<< ((v23 : Int32) &&& 31)))) fun x25 => some (.inl (x25, v23 + 1))))
def fX12_open (S : St) : Option Int32 :=
  b1 (lp (fun w21 : Int32 × Int32 => bX12_open_4 S w21.1 w21.2) 5000 (0, 0)) fun u28 => some u28
def fX12_blockAt (S : St) (v0 : Int32) (v1 : Int32) (v2 : Int32) (v3 : Int32) : Option Int32 :=
  some ((((512 * (v3 - 1)) + (64 * (v2 - 1))) + (8 * v1)) + v0)
def bX12_bringsOf_57 (S : St) (v1 : Int32) (v2 : Int32) (v3 : Int32) (v4 : Int32) (v5 : Int32) (v23 : Int32) (v24 : Int32) : Option ((Int32 × Int32) ⊕ ((Int32))) :=
  (if gI_ S 0 4 ≤ v24 then some (.inr v23) else b1 (fX12_doesFit S v1 v2 v3 v4 v5 v24) fun x25 => (if x25 = 0 then some (.inl (v23 + 0, v24 + 1)) else b1 (rI_ S 8 8 v5) fun x26 => some (.inl (v23 + x26, v24 + 1))))
def fX12_bringsOf (S : St) (v1 : Int32) (v2 : Int32) (v3 : Int32) (v4 : Int32) (v5 : Int32) (v6 : Int32) : Option Int32 :=
  b1 (fX12_isOfSize S v5 v3 v4) fun x21 => (if x21 = 0 then some (-4) else (if v6 = (-2) then b1 (lp (fun w22 : Int32 × Int32 => bX12_bringsOf_57 S v1 v2 v3 v4 v5 w22.1 w22.2) 5000 (0, 0)) fun u29 => some u29 else b1 (fX12_doesFit S v1 v2 v3 v4 v5 v6) fun x30 => (if x30 = 0 then some (-4) else b1 (rI_ S 8 8 v5) fun x31 => some x31)))
def bX12_fills_54 (v1 : Int32) (v22 : Int32) (v25 : Int32) (v28 : Int32) (v31 : Int32) (S32 : St) (v34 : Int32) (v35 : Int32) : Option ((Int32 × Int32) ⊕ ((Int32))) :=
  (if gI_ S32 0 9 ≤ v35 then some (.inr v34) else b1 (fX12_bringsOf S32 v31 v28 v25 v22 v35 v1) fun x36 => (if x36 ≤ v34 then some (.inl (v34, v35 + 1)) else some (.inl (x36, v35 + 1))))
def bX12_fills_103 (v22 : Int32) (v25 : Int32) (v28 : Int32) (v31 : Int32) (S32 : St) (v41 : Int32) (v42 : Int32) : Option ((Int32 × Int32) ⊕ ((Int32))) :=
  (if v25 ≤ v42 then some (.inr v41) else b1 (fX12_blockAt S32 v31 v28 v42 v22) fun x43 => b1 (rI_ S32 11 4096 x43) fun x44 => b1 (fX12_blockAt S32 (v31 + v42) v28 (v25 - v42) v22) fun x45 => b1 (rI_ S32 11 4096 x45) fun x46 => (if x44 + x46 ≤ v41 then some (.inl (v41, v42 + 1)) else some (.inl (x44 + x46, v42 + 1))))
def bX12_fills_172 (v22 : Int32) (v25 : Int32) (v28 : Int32) (v31 : Int32) (S32 : St) (v51 : Int32) (v52 : Int32) : Option ((Int32 × Int32) ⊕ ((Int32))) :=
  (if v22 ≤ v52 then some (.inr v51) else b1 (fX12_blockAt S32 v31 v28 v25 v52) fun x53 => b1 (rI_ S32 11 4096 x53) fun x54 => b1 (fX12_blockAt S32 v31 (v28 + v52) v25 (v22 - v52)) fun x55 => b1 (rI_ S32 11 4096 x55) fun x56 => (if x54 + x56 ≤ v51 then some (.inl (v51, v52 + 1)) else some (.inl (x54 + x56, v52 + 1))))
def bX12_fills_37 (v1 : Int32) (v22 : Int32) (v25 : Int32) (v28 : Int32) (v31 : Int32) (S32 : St) : Option ((Int32 × St) ⊕ ((St))) :=
  (if gI_ S32 0 0 < v31 + v25 then some (.inr S32) else b1 (lp (fun w33 : Int32 × Int32 => bX12_fills_54 v1 v22 v25 v28 v31 S32 w33.1 w33.2) 5000 (0, 0)) fun u39 => b1 (lp (fun w40 : Int32 × Int32 => bX12_fills_103 v22 v25 v28 v31 S32 w40.1 w40.2) 5000 (u39, 1)) fun u49 => b1 (lp (fun w50 : Int32 × Int32 => bX12_fills_172 v22 v25 v28 v31 S32 w50.1 w50.2) 5000 (u49, 1)) fun u59 => b1 (fX12_blockAt S32 v31 v28 v25 v22) fun x60 => b1 (wI_ S32 11 4096 x60 u59) fun S61 => some (.inl (v31 + 1, S61)))
def bX12_fills_23 (v1 : Int32) (v22 : Int32) (v25 : Int32) (v28 : Int32) (S29 : St) : Option ((Int32 × St) ⊕ ((St))) :=
  (if gI_ S29 0 1 < v28 + v22 then some (.inr S29) else b1 (lp (fun w30 : Int32 × St => bX12_fills_37 v1 v22 v25 v28 w30.1 w30.2) 5000 (0, S29)) fun u63 => some (.inl (v28 + 1, u63)))
def bX12_fills_12 (v1 : Int32) (v22 : Int32) (v25 : Int32) (S26 : St) : Option ((Int32 × St) ⊕ ((St))) :=
  (if gI_ S26 0 0 < v25 then some (.inr S26) else b1 (lp (fun w27 : Int32 × St => bX12_fills_23 v1 v22 v25 w27.1 w27.2) 5000 (0, S26)) fun u65 => some (.inl (v25 + 1, u65)))
def bX12_fills_2 (v1 : Int32) (v22 : Int32) (S23 : St) : Option ((Int32 × St) ⊕ ((St))) :=
  (if gI_ S23 0 1 < v22 then some (.inr S23) else b1 (lp (fun w24 : Int32 × St => bX12_fills_12 v1 v22 w24.1 w24.2) 5000 (1, S23)) fun u67 => some (.inl (v22 + 1, u67)))
def fX12_fills (S : St) (v1 : Int32) : Option St :=
  b1 (lp (fun w21 : Int32 × St => bX12_fills_2 v1 w21.1 w21.2) 5000 (1, S)) fun u69 => some u69
def fX12_mostOfAll (S : St) (v1 : Int32) : Option (Int32 × St) :=
  b1 (fX12_fills S v1) fun S21 => b1 (fX12_blockAt S21 0 0 (gI_ S21 0 0) (gI_ S21 0 1)) fun x22 => b1 (rI_ S21 11 4096 x22) fun x23 => some (x23, S21)
def fX12_most (S : St) (v1 : Int32) (v2 : Int32) (v3 : Int32) (v4 : Int32) : Option (Int32 × St) :=
  b1 (fX12_isBlock S v1 v2 v3 v4) fun x21 => (if x21 = 0 then some ((-1), S) else b1 (fX12_fills S (-1)) fun S22 => b1 (fX12_blockAt S22 v1 v2 v3 v4) fun x23 => b1 (rI_ S22 11 4096 x23) fun x24 => some (x24, S22))
def bX12_deed_26 (S : St) (v1 : Int32) (v2 : Int32) (v3 : Int32) (v4 : Int32) (v5 : Int32) (x22 : Int32) (v24 : Int32) : Option ((Int32) ⊕ ((Unit) ⊕ Int32)) :=
  (if gI_ S 0 9 ≤ v24 then some (.inr (.inl ())) else b1 (fX12_bringsOf S v1 v2 v3 v4 v24 v5) fun x25 => (if x25 = x22 then some (.inr (.inr v24)) else some (.inl (v24 + 1))))
def bX12_deed_65 (S : St) (v1 : Int32) (v2 : Int32) (v3 : Int32) (v4 : Int32) (x22 : Int32) (v30 : Int32) : Option ((Int32) ⊕ ((Unit) ⊕ Int32)) :=
  (if v3 ≤ v30 then some (.inr (.inl ())) else b1 (fX12_blockAt S v1 v2 v30 v4) fun x31 => b1 (rI_ S 11 4096 x31) fun x32 => b1 (fX12_blockAt S (v1 + v30) v2 (v3 - v30) v4) fun x33 => b1 (rI_ S 11 4096 x33) fun x34 => (if x32 + x34 = x22 then some (.inr (.inr (100 + v30))) else some (.inl (v30 + 1))))
def bX12_deed_125 (S : St) (v1 : Int32) (v2 : Int32) (v3 : Int32) (v4 : Int32) (x22 : Int32) (v39 : Int32) : Option ((Int32) ⊕ ((Int32))) :=
  b1 (fX12_blockAt S v1 v2 v3 v39) fun x40 => b1 (rI_ S 11 4096 x40) fun x41 => b1 (fX12_blockAt S v1 (v2 + v39) v3 (v4 - v39)) fun x42 => b1 (rI_ S 11 4096 x42) fun x43 => (if x41 + x43 = x22 then some (.inr v39) else some (.inl (v39 + 1)))
def fX12_deed (S : St) (v1 : Int32) (v2 : Int32) (v3 : Int32) (v4 : Int32) (v5 : Int32) : Option Int32 :=
  b1 (fX12_blockAt S v1 v2 v3 v4) fun x21 => b1 (rI_ S 11 4096 x21) fun x22 => (if x22 = 0 then some (-5) else bs (lp (fun w23 : Int32 => bX12_deed_26 S v1 v2 v3 v4 v5 x22 w23) 5000 0) (fun u28 => bs (lp (fun w29 : Int32 => bX12_deed_65 S v1 v2 v3 v4 x22 w29) 5000 1) (fun u37 => b1 (lp (fun w38 : Int32 => bX12_deed_125 S v1 v2 v3 v4 x22 w38) 5000 1) fun u45 => some (200 + u45)) (fun rr => some rr)) (fun rr => some rr))
def fX12_cut (S : St) (v1 : Int32) (v2 : Int32) (v3 : Int32) (v4 : Int32) : Option (Int32 × St) :=
  b1 (fX12_isBlock S v1 v2 v3 v4) fun x21 => (if x21 = 0 then some ((-1), S) else b1 (fX12_fills S (-1)) fun S22 => b1 (fX12_deed S22 v1 v2 v3 v4 (-1)) fun x23 => some (x23, S22))
def bX12_sawn_70 (v1 : Int32) (v27 : Int32) (v28 : Int32) (v29 : Int32) (v30 : Int32) (v31 : Int32) (S32 : St) : Option ((Int32 × Int32 × Int32 × Int32 × Int32 × St) ⊕ ((Int32 × Int32 × Int32 × Int32 × St))) :=
  (if v31 ≤ 0 then some (.inr (v27, v28, v29, v30, S32)) else b1 (rI_ S32 12 64 (v31 + (-1))) fun x33 => b1 (rI_ S32 12 64 (v31 + (-1))) fun x34 => b1 (rI_ S32 12 64 (v31 + (-1))) fun x35 => b1 (rI_ S32 12 64 (v31 + (-1))) fun x36 => b1 (fX12_deed S32 (x33 - x33 / 8 * 8) ((x34 / 8) - (x34 / 8) / 8 * 8) (((x35 / 64) - (x35 / 64) / 8 * 8) + 1) ((x36 / 512) + 1) (-1)) fun x37 => (if x37 = (-5) then b1 (some (v29 + ((((x35 / 64) - (x35 / 64) / 8 * 8) + 1) * ((x36 / 512) + 1)))) fun x50 => some (.inl (v27, v28, x50, v30, v31 + (-1), S32)) else (if 100 ≤ x37 then b1 ((if 200 ≤ x37 then b1 (fX12_blockAt S32 (x33 - x33 / 8 * 8) ((x34 / 8) - (x34 / 8) / 8 * 8) (((x35 / 64) - (x35 / 64) / 8 * 8) + 1) (x37 - x37 / 100 * 100)) fun x45 => some x45 else b1 (fX12_blockAt S32 (x33 - x33 / 8 * 8) ((x34 / 8) - (x34 / 8) / 8 * 8) (x37 - x37 / 100 * 100) ((x36 / 512) + 1)) fun x46 => some x46) : Option (Int32)) fun w38 => b1 (wI_ S32 12 64 (v31 + (-1)) w38) fun S39 => (if 200 ≤ x37 then b1 (fX12_blockAt S39 (x33 - x33 / 8 * 8) (((x34 / 8) - (x34 / 8) / 8 * 8) + (x37 - x37 / 100 * 100)) (((x35 / 64) - (x35 / 64) / 8 * 8) + 1) (((x36 / 512) + 1) - (x37 - x37 / 100 * 100))) fun x40 => b1 (wI_ S39 12 64 ((v31 + (-1)) + 1) x40) fun S41 => some (.inl (v27, v28 + 1, v29, v30, (v31 + (-1)) + 2, S41)) else b1 (fX12_blockAt S39 ((x33 - x33 / 8 * 8) + (x37 - x37 / 100 * 100)) ((x34 / 8) - (x34 / 8) / 8 * 8) ((((x35 / 64) - (x35 / 64) / 8 * 8) + 1) - (x37 - x37 / 100 * 100)) ((x36 / 512) + 1)) fun x42 => b1 (wI_ S39 12 64 ((v31 + (-1)) + 1) x42) fun S43 => some (.inl (v27, v28 + 1, v29, v30, (v31 + (-1)) + 2, S43))) else (if x37 = v1 - 10 then some (.inl (v27 + 1, v28, v29, v30 + 1, v31 + (-1), S32)) else some (.inl (v27 + 1, v28, v29, v30 + 0, v31 + (-1), S32))))))
def fX12_sawn (S : St) (v1 : Int32) : Option (Int32 × St) :=
  b1 (fX12_in S ((v1 : Int32).toInt64) 0 3) fun x21 => bs ((if x21 = 0 then (if v1 < 10 then some (.inr ((-1), S)) else b1 (fX12_isShape S (v1 - 10)) fun x58 => (if x58 = 0 then some (.inr ((-1), S)) else some (.inl ()))) else some (.inl ())) : Option ((Unit) ⊕ (Int32 × St))) (fun w22 => b1 (fX12_mostOfAll S (-1)) fun q23 => b1 (fX12_blockAt q23.2 0 0 (gI_ q23.2 0 0) (gI_ q23.2 0 1)) fun x24 => b1 (wI_ q23.2 12 64 0 x24) fun S25 => b1 (lp (fun w26 : Int32 × Int32 × Int32 × Int32 × Int32 × St => bX12_sawn_70 v1 w26.1 w26.2.1 w26.2.2.1 w26.2.2.2.1 w26.2.2.2.2.1 w26.2.2.2.2.2) 5000 (0, 0, 0, 0, 1, S25)) fun u53 => (if v1 = 0 then some (q23.1, u53.2.2.2.2) else (if v1 = 1 then some (u53.1, u53.2.2.2.2) else (if v1 = 2 then some (u53.2.1, u53.2.2.2.2) else (if v1 = 3 then some (u53.2.2.1, u53.2.2.2.2) else some (u53.2.2.2.1, u53.2.2.2.2)))))) (fun r62 => some r62)
def fX12_costs (S : St) (v1 : Int32) (v2 : Int32) : Option (Int32 × St) :=
  b1 (fX12_isSquare S v1 v2) fun x21 => (if x21 = 0 then some ((-1), S) else b1 (fX12_mostOfAll S (-1)) fun q22 => b1 (rI_ q22.2 1 64 ((8 * v2) + v1)) fun x23 => b1 (wZ_ q22.2 1 64 ((8 * v2) + v1) 1) fun S24 => b1 (fX12_mostOfAll S24 (-1)) fun q25 => b1 (wZ_ q25.2 1 64 ((8 * v2) + v1) x23) fun S26 => some (q22.1 - q25.1, S26))
def bX12_world_13  (v22 : Int32) (S23 : St) : Option ((Int32 × St) ⊕ ((St))) :=
  (if 64 ≤ v22 then some (.inr S23) else b1 (wZ_ S23 3 256 ((64 * (gI_ S23 0 4)) + v22) 0) fun S24 => some (.inl (v22 + 1, S24)))
def fX12_world (S : St) : Option (Int32 × St) :=
  (if gI_ S 0 4 = 4 then some ((-3), S) else b1 (lp (fun w21 : Int32 × St => bX12_world_13  w21.1 w21.2) 5000 (0, S)) fun u26 => b1 (oI_ u26 0 4 ((gI_ u26 0 4) + 1)) fun S27 => some ((gI_ S27 0 4) - 1, S27))
def fX12_doubt (S : St) (v1 : Int32) (v2 : Int32) (v3 : Int32) (v4 : Int32) : Option (Int32 × St) :=
  b1 (fX12_in S ((v1 : Int32).toInt64) 0 (((gI_ S 0 4) - 1 : Int32).toInt64)) fun x21 => (if x21 = 0 then some ((-1), S) else b1 (fX12_isSquare S v2 v3) fun x22 => (if x22 = 0 then some ((-1), S) else b1 (rI_ S 3 256 (((64 * v1) + (8 * v3)) + v2)) fun x23 => b1 ((if x23 = 0 then some 0 else some 1) : Option (Int32)) fun w24 => b1 (wZ_ S 3 256 (((64 * v1) + (8 * v3)) + v2) v4) fun S25 => some (w24, S25)))
def bX12_choose_35  (v23 : Int32) (v24 : Int32) (v25 : Int32) (v26 : Int32) (S27 : St) : Option ((Int32 × Int32 × Int32 × Int32 × St) ⊕ ((Int32 × Int32 × Int32 × St))) :=
  (if gI_ S27 0 4 ≤ v26 then some (.inr (v23, v24, v25, S27)) else b1 (fX12_mostOfAll S27 v26) fun q28 => b1 ((if v24 = (-4) then some q28.1 else (if v24 ≤ q28.1 then some v24 else some q28.1)) : Option (Int32)) fun w29 => (if q28.1 ≤ v25 then some (.inl (v23 + q28.1, w29, v25, v26 + 1, q28.2)) else some (.inl (v23 + q28.1, w29, q28.1, v26 + 1, q28.2))))
def fX12_choose (S : St) (v1 : Int32) : Option (Int32 × St) :=
  b1 (fX12_in S ((v1 : Int32).toInt64) 0 5) fun x21 => (if x21 = 0 then some ((-1), S) else (if gI_ S 0 4 = 0 then some ((-2), S) else b1 (lp (fun w22 : Int32 × Int32 × Int32 × Int32 × St => bX12_choose_35  w22.1 w22.2.1 w22.2.2.1 w22.2.2.2.1 w22.2.2.2.2) 5000 (0, (-4), 0, 0, S)) fun u34 => b1 (fX12_mostOfAll u34.2.2.2 (-2)) fun q35 => (if v1 = 0 then some (u34.1, q35.2) else (if v1 = 1 then some (q35.1, q35.2) else (if v1 = 2 then some (u34.1 - q35.1, q35.2) else (if v1 = 3 then b1 (fX12_deed q35.2 0 0 (gI_ q35.2 0 0) (gI_ q35.2 0 1) (-2)) fun x37 => some (x37, q35.2) else (if v1 = 4 then some (u34.2.1, q35.2) else some (u34.2.2.1, q35.2))))))))
def fX12_store (S : St) (v1 : Int32) (v2 : Int32) (v3 : Int32) (v4 : Int32) : Option (Int32 × St) :=
  b1 (fX12_in S ((v1 : Int32).toInt64) 1 8) fun x21 => (if x21 = 0 then some ((-1), S) else b1 (fX12_in S ((v2 : Int32).toInt64) 1 8) fun x22 => (if x22 = 0 then some ((-1), S) else b1 (fX12_in S ((v3 : Int32).toInt64) 0 9) fun x23 => (if x23 = 0 then some ((-1), S) else b1 (fX12_in S ((v4 : Int32).toInt64) 0 99) fun x24 => (if x24 = 0 then some ((-1), S) else (if gI_ S 0 17 = 12 then some ((-3), S) else b1 (wI_ S 13 12 (gI_ S 0 17) v1) fun S25 => b1 (wI_ S25 14 12 (gI_ S25 0 17) v2) fun S26 => b1 (wI_ S26 15 12 (gI_ S26 0 17) v3) fun S27 => b1 (wI_ S27 16 12 (gI_ S27 0 17) v4) fun S28 => b1 (oI_ S28 0 17 ((gI_ S28 0 17) + 1)) fun S29 => some ((gI_ S29 0 17) - 1, S29))))))
def fX12_doesFor (S : St) (v1 : Int32) (v2 : Int32) : Option Int32 :=
  b1 (rI_ S 17 8 v2) fun x21 => b1 (rI_ S 13 12 v1) fun x22 => b1 (rI_ S 14 12 v1) fun x23 => b1 (fX12_isOfSize S x21 x22 x23) fun x24 => (if x24 = 0 then some 0 else b1 (rI_ S 15 12 v1) fun x25 => b1 (rI_ S 9 8 x21) fun x26 => (if x25 < x26 then some 0 else b1 (rI_ S 16 12 v1) fun x27 => b1 (rI_ S 18 8 v2) fun x28 => (if x27 < x28 then some 0 else some 1)))
def bX12_stored_35 (S : St) (v1 : Int32) (v24 : Int32) (v25 : Int32) : Option ((Int32 × Int32) ⊕ ((Int32))) :=
  (if gI_ S 0 22 ≤ v25 then some (.inr v24) else b1 (fX12_doesFor S v1 v25) fun x26 => (if x26 = 0 then some (.inl (v24 + 0, v25 + 1)) else some (.inl (v24 + 1, v25 + 1))))
def fX12_stored (S : St) (v1 : Int32) (v2 : Int32) : Option Int32 :=
  b1 (fX12_in S ((v1 : Int32).toInt64) 0 (((gI_ S 0 17) - 1 : Int32).toInt64)) fun x21 => (if x21 = 0 then some (-1) else b1 (fX12_in S ((v2 : Int32).toInt64) 0 4) fun x22 => (if x22 = 0 then some (-1) else b1 (lp (fun w23 : Int32 × Int32 => bX12_stored_35 S v1 w23.1 w23.2) 5000 (0, 0)) fun u29 => (if v2 = 0 then b1 (rI_ S 13 12 v1) fun x36 => some x36 else (if v2 = 1 then b1 (rI_ S 14 12 v1) fun x34 => some x34 else (if v2 = 2 then b1 (rI_ S 15 12 v1) fun x32 => some x32 else (if v2 = 3 then b1 (rI_ S 16 12 v1) fun x30 => some x30 else some u29))))))
def bX12_age_2  (v22 : Int32) (S23 : St) : Option ((Int32 × St) ⊕ ((St))) :=
  (if gI_ S23 0 17 ≤ v22 then some (.inr S23) else b1 (rI_ S23 16 12 v22) fun x24 => (if 99 ≤ x24 then b1 (wI_ S23 16 12 v22 99) fun S25 => some (.inl (v22 + 1, S25)) else b1 (rI_ S23 16 12 v22) fun x26 => b1 (wI_ S23 16 12 v22 (x26 + 1)) fun S27 => some (.inl (v22 + 1, S27))))
def fX12_age (S : St) : Option (Int32 × St) :=
  b1 (lp (fun w21 : Int32 × St => bX12_age_2  w21.1 w21.2) 5000 (0, S)) fun u30 => some (gI_ u30 0 17, u30)
def fX12_order (S : St) (v1 : Int32) (v2 : Int32) (v3 : Int32) : Option (Int32 × St) :=
  b1 (fX12_isShape S v1) fun x21 => (if x21 = 0 then some ((-1), S) else b1 (fX12_in S ((v2 : Int32).toInt64) 0 99) fun x22 => (if x22 = 0 then some ((-1), S) else b1 (fX12_in S ((v3 : Int32).toInt64) 1 1000) fun x23 => (if x23 = 0 then some ((-1), S) else (if gI_ S 0 22 = 8 then some ((-3), S) else b1 (wI_ S 17 8 (gI_ S 0 22) v1) fun S24 => b1 (wI_ S24 18 8 (gI_ S24 0 22) v2) fun S25 => b1 (wI_ S25 19 8 (gI_ S25 0 22) v3) fun S26 => b1 (oI_ S26 0 22 ((gI_ S26 0 22) + 1)) fun S27 => some ((gI_ S27 0 22) - 1, S27)))))
def bX12_findFilled_2  (v22 : Int32) (S23 : St) : Option ((Int32 × St) ⊕ ((St))) :=
  (if 4096 ≤ v22 then some (.inr S23) else b1 (wI_ S23 20 36864 ((4096 * (gI_ S23 0 22)) + v22) 0) fun S24 => some (.inl (v22 + 1, S24)))
def bX12_findFilled_72 (v28 : Int32) (v31 : Int32) (S32 : St) (v35 : Int32) (v36 : Int32) : Option ((Int32 × Int32) ⊕ ((Int32))) :=
  (if gI_ S32 0 17 ≤ v36 then some (.inr v35) else (if ((v31 : Int32) >>> ((v36 : Int32) &&& 31)) &&& 1 = 0 then b1 (fX12_doesFor S32 v36 v28) fun x37 => (if x37 = 0 then some (.inl (v35, v36 + 1)) else b1 (rI_ S32 19 8 v28) fun x38 => b1 (rI_ S32 20 36864 ((4096 * (v28 + 1)) + (v31 ||| ((1 : Int32) <<< ((v36 : Int32) &&& 31))))) fun x39 => (if x38 + x39 ≤ v35 then some (.inl (v35, v36 + 1)) else some (.inl (x38 + x39, v36 + 1)))) else some (.inl (v35, v36 + 1))))
def bX12_findFilled_44 (v28 : Int32) (v31 : Int32) (S32 : St) : Option ((Int32 × St) ⊕ ((St))) :=
  (if (1 : Int32) <<< ((gI_ S32 0 17 : Int32) &&& 31) ≤ v31 then some (.inr S32) else b1 (rI_ S32 20 36864 ((4096 * (v28 + 1)) + v31)) fun x33 => b1 (lp (fun w34 : Int32 × Int32 => bX12_findFilled_72 v28 v31 S32 w34.1 w34.2) 5000 (x33, 0)) fun u44 => b1 (wI_ S32 20 36864 ((4096 * v28) + v31) u44) fun S45 => some (.inl (v31 + 1, S45)))
def bX12_findFilled_38  (v28 : Int32) (S29 : St) : Option ((Int32 × St) ⊕ ((St))) :=
  (if v28 < 0 then some (.inr S29) else b1 (lp (fun w30 : Int32 × St => bX12_findFilled_44 v28 w30.1 w30.2) 5000 (0, S29)) fun u47 => some (.inl (v28 + (-1), u47)))
def bX12_findFilled_199 (v51 : Int32) (v52 : Int32) (v56 : Int32) (S57 : St) : Option ((Int32 × St) ⊕ ((St))) :=
  (if v56 < 0 then some (.inr S57) else (if ((v51 : Int32) >>> ((v56 : Int32) &&& 31)) &&& 1 = 0 then b1 (fX12_doesFor S57 v56 v52) fun x58 => (if x58 = 0 then some (.inl (v56 + (-1), S57)) else b1 (rI_ S57 19 8 v52) fun x59 => b1 (rI_ S57 20 36864 ((4096 * (v52 + 1)) + (v51 ||| ((1 : Int32) <<< ((v56 : Int32) &&& 31))))) fun x60 => b1 (rI_ S57 20 36864 ((4096 * v52) + v51)) fun x61 => (if x59 + x60 = x61 then b1 (wI_ S57 21 8 v52 v56) fun S62 => some (.inl (v56 + (-1), S62)) else some (.inl (v56 + (-1), S57)))) else some (.inl (v56 + (-1), S57))))
def bX12_findFilled_176  (v51 : Int32) (v52 : Int32) (S53 : St) : Option ((Int32 × Int32 × St) ⊕ ((St))) :=
  (if gI_ S53 0 22 ≤ v52 then some (.inr S53) else b1 (wI_ S53 21 8 v52 (-4)) fun S54 => b1 (lp (fun w55 : Int32 × St => bX12_findFilled_199 v51 v52 w55.1 w55.2) 5000 ((gI_ S54 0 17) - 1, S54)) fun u67 => b1 (rI_ u67 21 8 v52) fun x68 => (if x68 = (-4) then some (.inl (v51 ||| 0, v52 + 1, u67)) else b1 (rI_ u67 21 8 v52) fun x69 => b1 (some (v51 ||| ((1 : Int32) <<< ((x69 : Int32) &&& 31)))) fun x70 => some (.inl (x70, v52 + 1, u67))))
def fX12_findFilled (S : St) : Option (Int32 × St) :=
  b1 (lp (fun w21 : Int32 × St => bX12_findFilled_2  w21.1 w21.2) 5000 (0, S)) fun u26 => b1 (lp (fun w27 : Int32 × St => bX12_findFilled_38  w27.1 w27.2) 5000 ((gI_ u26 0 22) - 1, u26)) fun u49 => b1 (lp (fun w50 : Int32 × Int32 × St => bX12_findFilled_176  w50.1 w50.2.1 w50.2.2) 5000 (0, 0, u49)) fun u73 => b1 (rI_ u73 20 36864 0) fun x74 => some (x74, u73)
def bX12_filled_41 (q23 : Int32 × St) (v25 : Int32) (v26 : Int32) : Option ((Int32 × Int32) ⊕ ((Int32))) :=
  (if gI_ q23.2 0 22 ≤ v26 then some (.inr v25) else b1 (rI_ q23.2 21 8 v26) fun x27 => (if x27 = (-4) then some (.inl (v25 + 0, v26 + 1)) else some (.inl (v25 + 1, v26 + 1))))
def fX12_filled (S : St) (v1 : Int32) : Option (Int32 × St) :=
  b1 (fX12_in S ((v1 : Int32).toInt64) 0 1) fun x21 => bs ((if x21 = 0 then b1 (fX12_in S ((v1 : Int32).toInt64) 10 ((9 + (gI_ S 0 22) : Int32).toInt64)) fun x34 => (if x34 = 0 then some (.inr ((-1), S)) else some (.inl ())) else some (.inl ())) : Option ((Unit) ⊕ (Int32 × St))) (fun w22 => b1 (fX12_findFilled S) fun q23 => b1 (lp (fun w24 : Int32 × Int32 => bX12_filled_41 q23 w24.1 w24.2) 5000 (0, 0)) fun u30 => (if v1 = 0 then some (q23.1, q23.2) else (if v1 = 1 then some (u30, q23.2) else b1 (rI_ q23.2 21 8 (v1 - 10)) fun x31 => some (x31, q23.2)))) (fun r37 => some r37)
def bX12_deliver_12  (v23 : Int32) (v24 : Int32) (v25 : Int32) (S26 : St) : Option ((Int32 × Int32 × Int32 × St) ⊕ ((Int32 × Int32 × St))) :=
  (if gI_ S26 0 22 ≤ v25 then some (.inr (v23, v24, S26)) else b1 (rI_ S26 21 8 v25) fun x27 => (if x27 = (-4) then b1 (rI_ S26 17 8 v25) fun x28 => b1 (wI_ S26 17 8 v24 x28) fun S29 => b1 (rI_ S29 18 8 v25) fun x30 => b1 (wI_ S29 18 8 v24 x30) fun S31 => b1 (rI_ S31 19 8 v25) fun x32 => b1 (wI_ S31 19 8 v24 x32) fun S33 => some (.inl (v23, v24 + 1, v25 + 1, S33)) else b1 (rI_ S26 21 8 v25) fun x34 => b1 (some (v23 ||| ((1 : Int32) <<< ((x34 : Int32) &&& 31)))) fun x35 => some (.inl (x35, v24, v25 + 1, S26))))
def bX12_deliver_106 (u38 : Int32 × Int32 × St) (v41 : Int32) (v42 : Int32) (S43 : St) : Option ((Int32 × Int32 × St) ⊕ ((Int32 × St))) :=
  (if gI_ S43 0 17 ≤ v42 then some (.inr (v41, S43)) else (if ((u38.1 : Int32) >>> ((v42 : Int32) &&& 31)) &&& 1 = 0 then b1 (rI_ S43 13 12 v42) fun x44 => b1 (wI_ S43 13 12 v41 x44) fun S45 => b1 (rI_ S45 14 12 v42) fun x46 => b1 (wI_ S45 14 12 v41 x46) fun S47 => b1 (rI_ S47 15 12 v42) fun x48 => b1 (wI_ S47 15 12 v41 x48) fun S49 => b1 (rI_ S49 16 12 v42) fun x50 => b1 (wI_ S49 16 12 v41 x50) fun S51 => some (.inl (v41 + 1, v42 + 1, S51)) else some (.inl (v41, v42 + 1, S43))))
def fX12_deliver (S : St) : Option (Int32 × St) :=
  b1 (fX12_findFilled S) fun q21 => b1 (lp (fun w22 : Int32 × Int32 × Int32 × St => bX12_deliver_12  w22.1 w22.2.1 w22.2.2.1 w22.2.2.2) 5000 (0, 0, 0, q21.2)) fun u38 => b1 (oI_ u38.2.2 0 22 u38.2.1) fun S39 => b1 (lp (fun w40 : Int32 × Int32 × St => bX12_deliver_106 u38 w40.1 w40.2.1 w40.2.2) 5000 (0, 0, S39)) fun u54 => b1 (oI_ u54.2 0 17 u54.1) fun S55 => some (q21.1, S55)
def fX12_gains (S : St) (v1 : Int32) (v2 : Int32) : Option (Int32 × St) :=
  b1 (fX12_isShape S v1) fun x21 => (if x21 = 0 then some ((-1000000), S) else b1 (fX12_in S ((v2 : Int32).toInt64) 1 500) fun x22 => (if x22 = 0 then some ((-1000000), S) else b1 (fX12_mostOfAll S (-1)) fun q23 => b1 (rI_ q23.2 8 8 v1) fun x24 => b1 (wI_ q23.2 8 8 v1 v2) fun S25 => b1 (fX12_mostOfAll S25 (-1)) fun q26 => b1 (wI_ q26.2 8 8 v1 x24) fun S27 => some (q26.1 - q23.1, S27)))
def fX12_least (S : St) (v0 : Int32) (v1 : Int32) : Option Int32 :=
  (if v1 ≤ v0 then some v1 else some v0)
def fX12_greatest (S : St) (v0 : Int32) (v1 : Int32) : Option Int32 :=
  (if v0 ≤ v1 then some v1 else some v0)
def fX12_pipe (S : St) (v1 : Int32) (v2 : Int32) (v3 : Int32) (v4 : Int32) (v5 : Int32) (v6 : Int32) (v7 : Int32) : Option (Int32 × St) :=
  b1 (fX12_in S ((v1 : Int32).toInt64) 0 5) fun x21 => (if x21 = 0 then some ((-1), S) else b1 (fX12_in S ((v2 : Int32).toInt64) 0 5) fun x22 => (if x22 = 0 then some ((-1), S) else b1 (fX12_in S ((v3 : Int32).toInt64) 0 5) fun x23 => (if x23 = 0 then some ((-1), S) else b1 (fX12_in S ((v4 : Int32).toInt64) 0 5) fun x24 => (if x24 = 0 then some ((-1), S) else b1 (fX12_in S ((v5 : Int32).toInt64) 0 255) fun x25 => (if x25 = 0 then some ((-1), S) else b1 (fX12_in S ((v6 : Int32).toInt64) (-50) 50) fun x26 => (if x26 = 0 then some ((-1), S) else b1 (fX12_in S ((v7 : Int32).toInt64) 0 7) fun x27 => (if x27 = 0 then some ((-1), S) else (if gI_ S 0 28 = 12 then some ((-3), S) else b1 (fX12_least S v3 v4) fun x28 => b1 (fX12_least S v2 x28) fun x29 => b1 (fX12_greatest S v3 v4) fun x30 => b1 (fX12_greatest S v2 x30) fun x31 => b1 (wI_ S 22 12 (gI_ S 0 28) v1) fun S32 => b1 (wI_ S32 23 12 (gI_ S32 0 28) ((((v2 + v3) + v4) - x29) - x31)) fun S33 => b1 ((if 1 < x31 - x29 then some 0 else some 1) : Option (Int32)) fun w34 => b1 (wZ_ S33 24 12 (gI_ S33 0 28) w34) fun S35 => b1 (wI_ S35 25 12 (gI_ S35 0 28) v5) fun S36 => b1 (wI_ S36 26 12 (gI_ S36 0 28) v6) fun S37 => b1 (wI_ S37 27 12 (gI_ S37 0 28) v7) fun S38 => b1 (oI_ S38 0 28 ((gI_ S38 0 28) + 1)) fun S39 => some ((gI_ S39 0 28) - 1, S39)))))))))
def bX12_soldAs_7 (S : St) (v1 : Int32) (v23 : Int32) : Option ((Int32) ⊕ ((Int32))) :=
  (if v23 = (-4) then some (.inr v23) else b1 (rI_ S 23 12 v1) fun x24 => b1 (rI_ S 32 8 v23) fun x25 => (if x25 ≤ x24 then some (.inr v23) else b1 (rI_ S 33 8 v23) fun x26 => some (.inl x26)))
def fX12_soldAs (S : St) (v1 : Int32) : Option Int32 :=
  b1 (rI_ S 27 12 v1) fun x21 => b1 (lp (fun w22 : Int32 => bX12_soldAs_7 S v1 w22) 5000 x21) fun u29 => some u29
def bX12_wentOn_5 (S : St) (v2 : Int32) (v22 : Int32) (v23 : Int32) : Option ((Int32 × Int32) ⊕ ((Int32))) :=
  (if v23 = v2 then some (.inr v22) else b1 (rI_ S 33 8 v23) fun x24 => (if x24 = (-4) then some (.inr v22) else b1 (rI_ S 33 8 v23) fun x25 => some (.inl (v22 + 1, x25))))
def fX12_wentOn (S : St) (v1 : Int32) (v2 : Int32) : Option Int32 :=
  b1 (lp (fun w21 : Int32 × Int32 => bX12_wentOn_5 S v2 w21.1 w21.2) 5000 (0, v1)) fun u28 => some u28
def fX12_told (S : St) (v1 : Int32) (v2 : Int32) : Option Int32 :=
  b1 (fX12_in S ((v1 : Int32).toInt64) 0 (((gI_ S 0 28) - 1 : Int32).toInt64)) fun x21 => (if x21 = 0 then some (-100) else b1 (fX12_in S ((v2 : Int32).toInt64) 0 7) fun x22 => (if x22 = 0 then some (-100) else (if v2 = 0 then b1 (rI_ S 22 12 v1) fun x23 => some x23 else (if v2 = 1 then b1 (rI_ S 23 12 v1) fun x25 => some x25 else (if v2 = 2 then b1 (rI_ S 24 12 v1) fun x27 => (if x27 = 0 then some 0 else some 1) else (if v2 = 3 then b1 (rI_ S 25 12 v1) fun x30 => some x30 else (if v2 = 4 then b1 (rI_ S 26 12 v1) fun x32 => some x32 else (if v2 = 5 then b1 (rI_ S 27 12 v1) fun x34 => some x34 else (if v2 = 6 then b1 (fX12_soldAs S v1) fun x36 => some x36 else b1 (rI_ S 27 12 v1) fun x38 => b1 (fX12_soldAs S v1) fun x39 => b1 (fX12_wentOn S x38 x39) fun x40 => some x40)))))))))
def bX12_feed_19 (v1 : Int64) (v22 : Int32) (S23 : St) : Option ((Int32 × St) ⊕ ((St))) :=
  (if v22 < 0 then some (.inr S23) else b1 (wI_ S23 28 200 (gI_ S23 0 36) ((((v1 : Int64) >>> ((v22 : Int32).toInt64 &&& 63)) &&& 255 : Int64).toInt32)) fun S24 => b1 (oI_ S24 0 36 ((gI_ S24 0 36) + 1)) fun S25 => some (.inl (v22 + (-8), S25)))
def fX12_feed (S : St) (v1 : Int64) : Option (Int32 × St) :=
  (if (gI_ S 0 36) + 8 ≤ 200 then b1 (lp (fun w21 : Int32 × St => bX12_feed_19 v1 w21.1 w21.2) 5000 (56, S)) fun u27 => some (gI_ u27 0 36, u27) else some ((-3), S))
def fX12_end (S : St) (v1 : Int32) : Option (Int32 × St) :=
  b1 (fX12_in S ((v1 : Int32).toInt64) 0 ((gI_ S 0 36 : Int32).toInt64)) fun x21 => (if x21 = 0 then some ((-1), S) else b1 (oI_ S 0 36 v1) fun S22 => some (gI_ S 0 36, S22))
def fX12_wants (S : St) (v1 : Int32) (v2 : Int32) : Option St :=
  (if v1 = 0 then (if gI_ S 0 41 = 0 then b1 (oI_ S 0 41 v2) fun S21 => b1 (oI_ S21 0 42 (gI_ S21 0 38)) fun S22 => some S22 else some S) else some S)
def fX12_look (S : St) (v1 : Int32) : Option Int32 :=
  (if gI_ S 0 36 ≤ v1 then some (-1) else b1 (rI_ S 28 200 v1) fun x21 => some x21)
def fX12_is (S : St) (v1 : Int32) (v2 : Int32) (v3 : Int32) (v4 : Int32) (v5 : Int32) (v6 : Int32) : Option Int32 :=
  b1 ((if v4 = 0 then some 3 else (if v6 = 0 then some 5 else some 6)) : Option (Int32)) fun w21 => (if (gI_ S 0 37) - (gI_ S 0 38) = w21 then b1 (fX12_look S (gI_ S 0 38)) fun x22 => (if x22 = v1 then b1 (fX12_look S ((gI_ S 0 38) + 1)) fun x23 => (if x23 = v2 then b1 (fX12_look S ((gI_ S 0 38) + 2)) fun x24 => (if x24 = v3 then bs ((if w21 < 4 then some (.inl ()) else b1 (fX12_look S ((gI_ S 0 38) + 3)) fun x29 => (if x29 = v4 then b1 (fX12_look S ((gI_ S 0 38) + 4)) fun x30 => (if x30 = v5 then some (.inl ()) else some (.inr 0)) else some (.inr 0))) : Option ((Unit) ⊕ Int32)) (fun w25 => (if w21 < 6 then some 1 else b1 (fX12_look S ((gI_ S 0 38) + 5)) fun x26 => (if x26 = v6 then some 1 else some 0))) (fun r34 => some r34) else some 0) else some 0) else some 0) else some 0)
def fX12_wordNow (S : St) : Option Int32 :=
  b1 (fX12_is S 115 116 97 109 112 0) fun x21 => (if x21 = 0 then b1 (fX12_is S 98 97 114 0 0 0) fun x22 => (if x22 = 0 then b1 (fX12_is S 108 105 109 105 116 0) fun x23 => (if x23 = 0 then b1 (fX12_is S 108 101 97 115 116 0) fun x24 => (if x24 = 0 then b1 (fX12_is S 115 101 99 111 110 100) fun x25 => (if x25 = 0 then some (-4) else some 4) else some 3) else some 2) else some 1) else some 0)
def bX12_next_202  (S35 : St) : Option ((St) ⊕ ((St))) :=
  b1 (fX12_look S35 (gI_ S35 0 37)) fun x36 => b1 (fX12_in S35 ((x36 : Int32).toInt64) 48 57) fun x37 => (if x37 = 0 then some (.inr S35) else b1 ((if 4 ≤ (gI_ S35 0 37) - (gI_ S35 0 38) then some (gI_ S35 0 40) else b1 (fX12_look S35 (gI_ S35 0 37)) fun x41 => some (((10 * (gI_ S35 0 40)) + x41) - 48)) : Option (Int32)) fun w38 => b1 (oI_ S35 0 40 w38) fun S39 => b1 (oI_ S39 0 37 ((gI_ S39 0 37) + 1)) fun S40 => some (.inl S40))
def bX12_next_74  (S55 : St) : Option ((St) ⊕ ((St))) :=
  b1 (fX12_look S55 (gI_ S55 0 37)) fun x56 => b1 (fX12_in S55 ((x56 : Int32).toInt64) 97 122) fun x57 => (if x57 = 0 then some (.inr S55) else b1 (oI_ S55 0 37 ((gI_ S55 0 37) + 1)) fun S58 => some (.inl S58))
def bX12_next_0  (S71 : St) : Option ((St) ⊕ ((St))) :=
  b1 (fX12_look S71 (gI_ S71 0 37)) fun x72 => (if x72 = 32 then b1 (oI_ S71 0 37 ((gI_ S71 0 37) + 1)) fun S73 => some (.inl S73) else some (.inr S71))
def bX12_next_202b  (S89 : St) : Option ((St) ⊕ ((St))) :=
  b1 (fX12_look S89 (gI_ S89 0 37)) fun x90 => b1 (fX12_in S89 ((x90 : Int32).toInt64) 48 57) fun x91 => (if x91 = 0 then some (.inr S89) else b1 ((if 4 ≤ (gI_ S89 0 37) - (gI_ S89 0 38) then some (gI_ S89 0 40) else b1 (fX12_look S89 (gI_ S89 0 37)) fun x95 => some (((10 * (gI_ S89 0 40)) + x95) - 48)) : Option (Int32)) fun w92 => b1 (oI_ S89 0 40 w92) fun S93 => b1 (oI_ S93 0 37 ((gI_ S93 0 37) + 1)) fun S94 => some (.inl S94))
def bX12_next_74b  (S109 : St) : Option ((St) ⊕ ((St))) :=
  b1 (fX12_look S109 (gI_ S109 0 37)) fun x110 => b1 (fX12_in S109 ((x110 : Int32).toInt64) 97 122) fun x111 => (if x111 = 0 then some (.inr S109) else b1 (oI_ S109 0 37 ((gI_ S109 0 37) + 1)) fun S112 => some (.inl S112))
def fX12_next (S : St) : Option St :=
  b1 (fX12_look S (gI_ S 0 37)) fun x21 => (if x21 = 32 then b1 (oI_ S 0 37 ((gI_ S 0 37) + 1)) fun S69 => b1 (lp (fun w70 : St => bX12_next_0  w70) 5000 S69) fun u75 => b1 (oI_ u75 0 38 (gI_ u75 0 37)) fun S76 => b1 (fX12_look S76 (gI_ S76 0 37)) fun x77 => (if 0 ≤ x77 then b1 (fX12_in S76 ((x77 : Int32).toInt64) 97 122) fun x78 => (if x78 = 0 then b1 (fX12_in S76 ((x77 : Int32).toInt64) 65 72) fun x79 => (if x79 = 0 then b1 (fX12_in S76 ((x77 : Int32).toInt64) 48 57) fun x80 => (if x80 = 0 then b1 ((if x77 = 59 then some 1 else some 0) : Option (Int32)) fun w81 => b1 (fX12_wants S76 w81 1) fun S82 => b1 (oI_ S82 0 39 4) fun S83 => b1 (oI_ S83 0 37 ((gI_ S83 0 37) + 1)) fun S84 => some S84 else b1 (oI_ S76 0 39 3) fun S86 => b1 (oI_ S86 0 40 0) fun S87 => b1 (lp (fun w88 : St => bX12_next_202b  w88) 5000 S87) fun u98 => b1 ((if 4 < (gI_ u98 0 37) - (gI_ u98 0 38) then some 0 else some 1) : Option (Int32)) fun w99 => b1 (fX12_wants u98 w99 1) fun S100 => some S100) else b1 (oI_ S76 0 39 2) fun S103 => b1 (oI_ S103 0 40 (x77 - 65)) fun S104 => b1 (oI_ S104 0 37 ((gI_ S104 0 37) + 1)) fun S105 => some S105) else b1 (oI_ S76 0 39 1) fun S107 => b1 (lp (fun w108 : St => bX12_next_74b  w108) 5000 S107) fun u114 => b1 (fX12_wordNow u114) fun x115 => b1 (oI_ u114 0 40 x115) fun S116 => b1 ((if gI_ S116 0 40 = (-4) then some 0 else some 1) : Option (Int32)) fun w117 => b1 (fX12_wants S116 w117 1) fun S118 => some S118) else b1 (oI_ S76 0 39 0) fun S121 => some S121) else b1 (oI_ S 0 38 (gI_ S 0 37)) fun S22 => b1 (fX12_look S22 (gI_ S22 0 37)) fun x23 => (if 0 ≤ x23 then b1 (fX12_in S22 ((x23 : Int32).toInt64) 97 122) fun x24 => (if x24 = 0 then b1 (fX12_in S22 ((x23 : Int32).toInt64) 65 72) fun x25 => (if x25 = 0 then b1 (fX12_in S22 ((x23 : Int32).toInt64) 48 57) fun x26 => (if x26 = 0 then b1 ((if x23 = 59 then some 1 else some 0) : Option (Int32)) fun w27 => b1 (fX12_wants S22 w27 1) fun S28 => b1 (oI_ S28 0 39 4) fun S29 => b1 (oI_ S29 0 37 ((gI_ S29 0 37) + 1)) fun S30 => some S30 else b1 (oI_ S22 0 39 3) fun S32 => b1 (oI_ S32 0 40 0) fun S33 => b1 (lp (fun w34 : St => bX12_next_202  w34) 5000 S33) fun u44 => b1 ((if 4 < (gI_ u44 0 37) - (gI_ u44 0 38) then some 0 else some 1) : Option (Int32)) fun w45 => b1 (fX12_wants u44 w45 1) fun S46 => some S46) else b1 (oI_ S22 0 39 2) fun S49 => b1 (oI_ S49 0 40 (x23 - 65)) fun S50 => b1 (oI_ S50 0 37 ((gI_ S50 0 37) + 1)) fun S51 => some S51) else b1 (oI_ S22 0 39 1) fun S53 => b1 (lp (fun w54 : St => bX12_next_74  w54) 5000 S53) fun u60 => b1 (fX12_wordNow u60) fun x61 => b1 (oI_ u60 0 40 x61) fun S62 => b1 ((if gI_ S62 0 40 = (-4) then some 0 else some 1) : Option (Int32)) fun w63 => b1 (fX12_wants S62 w63 1) fun S64 => some S64) else b1 (oI_ S22 0 39 0) fun S67 => some S67))
def fX12_goesOn (S : St) : Option St :=
  (if gI_ S 0 41 = 0 then b1 (fX12_next S) fun S21 => some S21 else some S)
def bX12_takes_31  (v24 : Int32) (S25 : St) : Option ((Int32 × St) ⊕ ((St))) :=
  (if 8 ≤ v24 then some (.inr S25) else b1 (rI_ S25 34 8 v24) fun x26 => b1 ((if x26 = (-4) then some 1800 else b1 (rI_ S25 34 8 v24) fun x43 => some x43) : Option (Int32)) fun w27 => b1 (wI_ S25 29 8 v24 w27) fun S28 => b1 (rI_ S28 35 8 v24) fun x29 => b1 ((if x29 = (-4) then some 2000 else b1 (rI_ S28 35 8 v24) fun x41 => some x41) : Option (Int32)) fun w30 => b1 (wI_ S28 30 8 v24 w30) fun S31 => b1 (rI_ S31 36 8 v24) fun x32 => b1 (wI_ S31 31 8 v24 x32) fun S33 => b1 (rI_ S33 37 8 v24) fun x34 => b1 ((if x34 = (-4) then some 0 else b1 (rI_ S33 37 8 v24) fun x39 => some x39) : Option (Int32)) fun w35 => b1 (wI_ S33 32 8 v24 w35) fun S36 => b1 (rI_ S36 38 8 v24) fun x37 => b1 (wI_ S36 33 8 v24 x37) fun S38 => some (.inl (v24 + 1, S38)))
def bX12_takes_31b  (v50 : Int32) (S51 : St) : Option ((Int32 × St) ⊕ ((St))) :=
  (if 8 ≤ v50 then some (.inr S51) else b1 (rI_ S51 34 8 v50) fun x52 => b1 ((if x52 = (-4) then some 1800 else b1 (rI_ S51 34 8 v50) fun x69 => some x69) : Option (Int32)) fun w53 => b1 (wI_ S51 29 8 v50 w53) fun S54 => b1 (rI_ S54 35 8 v50) fun x55 => b1 ((if x55 = (-4) then some 2000 else b1 (rI_ S54 35 8 v50) fun x67 => some x67) : Option (Int32)) fun w56 => b1 (wI_ S54 30 8 v50 w56) fun S57 => b1 (rI_ S57 36 8 v50) fun x58 => b1 (wI_ S57 31 8 v50 x58) fun S59 => b1 (rI_ S59 37 8 v50) fun x60 => b1 ((if x60 = (-4) then some 0 else b1 (rI_ S59 37 8 v50) fun x65 => some x65) : Option (Int32)) fun w61 => b1 (wI_ S59 32 8 v50 w61) fun S62 => b1 (rI_ S62 38 8 v50) fun x63 => b1 (wI_ S62 33 8 v50 x63) fun S64 => some (.inl (v50 + 1, S64)))
def fX12_takes (S : St) : Option St :=
  (if gI_ S 0 53 = (-4) then b1 (oI_ S 0 46 5) fun S47 => b1 (oI_ S47 0 49 (gI_ S47 0 56)) fun S48 => b1 (lp (fun w49 : Int32 × St => bX12_takes_31b  w49.1 w49.2) 5000 (0, S48)) fun u72 => some u72 else b1 (oI_ S 0 46 (gI_ S 0 53)) fun S21 => b1 (oI_ S21 0 49 (gI_ S21 0 56)) fun S22 => b1 (lp (fun w23 : Int32 × St => bX12_takes_31  w23.1 w23.2) 5000 (0, S22)) fun u46 => some u46)
def bX12_forgets_13  (v24 : Int32) (S25 : St) : Option ((Int32 × St) ⊕ ((St))) :=
  (if 8 ≤ v24 then some (.inr S25) else b1 (wI_ S25 34 8 v24 (-4)) fun S26 => b1 (wI_ S26 35 8 v24 (-4)) fun S27 => b1 (wI_ S27 36 8 v24 0) fun S28 => b1 (wI_ S28 37 8 v24 (-4)) fun S29 => b1 (wI_ S29 38 8 v24 (-4)) fun S30 => some (.inl (v24 + 1, S30)))
def fX12_forgets (S : St) : Option St :=
  b1 (oI_ S 0 53 (-4)) fun S21 => b1 (oI_ S21 0 56 0) fun S22 => b1 (lp (fun w23 : Int32 × St => bX12_forgets_13  w23.1 w23.2) 5000 (0, S22)) fun u32 => b1 (fX12_takes u32) fun S33 => some S33
def fX12_number (S : St) (v1 : Int32) (v2 : Int32) : Option (Int32 × St) :=
  b1 ((if gI_ S 0 39 = 3 then some 1 else some 0) : Option (Int32)) fun w21 => b1 (fX12_wants S w21 2) fun S22 => (if gI_ S22 0 41 = 0 then b1 (fX12_in S22 ((gI_ S22 0 40 : Int32).toInt64) ((v1 : Int32).toInt64) ((v2 : Int32).toInt64)) fun x23 => b1 (fX12_wants S22 x23 3) fun S24 => some (gI_ S24 0 40, S24) else some (gI_ S22 0 40, S22))
def fX12_letter (S : St) : Option (Int32 × St) :=
  b1 ((if gI_ S 0 39 = 2 then some 1 else some 0) : Option (Int32)) fun w21 => b1 (fX12_wants S w21 2) fun S22 => some (gI_ S22 0 40, S22)
def fX12_readStamp (S : St) : Option St :=
  b1 (fX12_number S 0 7) fun q21 => b1 ((if gI_ q21.2 0 41 = 0 then b1 (rI_ q21.2 34 8 q21.1) fun x34 => b1 ((if x34 = (-4) then some 1 else some 0) : Option (Int32)) fun w35 => b1 (fX12_wants q21.2 w35 4) fun S36 => some S36 else some q21.2) : Option (St)) fun w22 => b1 (fX12_goesOn w22) fun S23 => b1 ((if gI_ S23 0 41 = 0 then b1 (fX12_number S23 1800 2000) fun q32 => some (q32.1, q32.2) else some (0, S23)) : Option (Int32 × St)) fun w24 => b1 (fX12_goesOn w24.2) fun S25 => b1 ((if gI_ S25 0 41 = 0 then b1 (fX12_number S25 w24.1 2000) fun q30 => some (q30.1, q30.2) else some (0, S25)) : Option (Int32 × St)) fun w26 => (if gI_ w26.2 0 41 = 0 then b1 (wI_ w26.2 34 8 q21.1 w24.1) fun S27 => b1 (wI_ S27 35 8 q21.1 w26.1) fun S28 => some S28 else some w26.2)
def fX12_readBar (S : St) : Option St :=
  b1 (fX12_number S 0 7) fun q21 => b1 (fX12_goesOn q21.2) fun S22 => b1 ((if gI_ S22 0 41 = 0 then b1 (fX12_number S22 0 7) fun q34 => some (q34.1, q34.2) else some (0, S22)) : Option (Int32 × St)) fun w23 => b1 ((if gI_ w23.2 0 41 = 0 then b1 ((if q21.1 = w23.1 then some 0 else some 1) : Option (Int32)) fun w30 => b1 (fX12_wants w23.2 w30 3) fun S31 => some S31 else some w23.2) : Option (St)) fun w24 => (if gI_ w24 0 41 = 0 then b1 (rI_ w24 36 8 q21.1) fun x25 => b1 (wI_ w24 36 8 q21.1 (x25 ||| ((1 : Int32) <<< ((w23.1 : Int32) &&& 31)))) fun S26 => b1 (rI_ S26 36 8 w23.1) fun x27 => b1 (wI_ S26 36 8 w23.1 (x27 ||| ((1 : Int32) <<< ((q21.1 : Int32) &&& 31)))) fun S28 => some S28 else some w24)
def fX12_readLeast (S : St) : Option St :=
  b1 (fX12_letter S) fun q21 => b1 ((if gI_ q21.2 0 41 = 0 then b1 (rI_ q21.2 37 8 q21.1) fun x29 => b1 ((if x29 = (-4) then some 1 else some 0) : Option (Int32)) fun w30 => b1 (fX12_wants q21.2 w30 4) fun S31 => some S31 else some q21.2) : Option (St)) fun w22 => b1 (fX12_goesOn w22) fun S23 => b1 ((if gI_ S23 0 41 = 0 then b1 (fX12_number S23 0 5) fun q27 => some (q27.1, q27.2) else some (0, S23)) : Option (Int32 × St)) fun w24 => (if gI_ w24.2 0 41 = 0 then b1 (wI_ w24.2 37 8 q21.1 w24.1) fun S25 => some S25 else some w24.2)
def bX12_readSecond_63 (q21 : Int32 × St) (w24 : Int32 × St) (v26 : Int32) : Option ((Int32) ⊕ ((Int32))) :=
  (if v26 = (-4) then some (.inr v26) else (if v26 = q21.1 then some (.inr v26) else b1 (rI_ w24.2 38 8 v26) fun x27 => some (.inl x27)))
def fX12_readSecond (S : St) : Option St :=
  b1 (fX12_letter S) fun q21 => b1 ((if gI_ q21.2 0 41 = 0 then b1 (rI_ q21.2 38 8 q21.1) fun x38 => b1 ((if x38 = (-4) then some 1 else some 0) : Option (Int32)) fun w39 => b1 (fX12_wants q21.2 w39 4) fun S40 => some S40 else some q21.2) : Option (St)) fun w22 => b1 (fX12_goesOn w22) fun S23 => b1 ((if gI_ S23 0 41 = 0 then b1 (fX12_letter S23) fun q36 => some (q36.1, q36.2) else some (0, S23)) : Option (Int32 × St)) fun w24 => (if gI_ w24.2 0 41 ≤ 0 then b1 (lp (fun w25 : Int32 => bX12_readSecond_63 q21 w24 w25) 5000 w24.1) fun u30 => b1 ((if u30 = (-4) then some 1 else some 0) : Option (Int32)) fun w31 => b1 (fX12_wants w24.2 w31 5) fun S32 => b1 (wI_ S32 38 8 q21.1 w24.1) fun S33 => some S33 else some w24.2)
def fX12_readLaw (S : St) : Option St :=
  b1 ((if gI_ S 0 39 = 1 then some 1 else some 0) : Option (Int32)) fun w21 => b1 (fX12_wants S w21 2) fun S22 => (if gI_ S22 0 41 ≤ 0 then b1 ((if gI_ S22 0 40 = 2 then b1 ((if gI_ S22 0 53 = (-4) then some 1 else some 0) : Option (Int32)) fun w112 => b1 (fX12_wants S22 w112 4) fun S113 => some S113 else some S22) : Option (St)) fun w23 => b1 (fX12_goesOn w23) fun S24 => b1 ((if gI_ S24 0 41 = 0 then (if gI_ S22 0 40 = 2 then b1 (fX12_number S24 0 50) fun q108 => b1 (oI_ q108.2 0 53 q108.1) fun S109 => some S109 else (if gI_ S24 0 41 = 0 then (if gI_ S22 0 40 = 0 then b1 (fX12_readStamp S24) fun S105 => some S105 else (if gI_ S24 0 41 = 0 then (if gI_ S22 0 40 = 1 then b1 (fX12_readBar S24) fun S102 => some S102 else (if gI_ S24 0 41 = 0 then (if gI_ S22 0 40 = 3 then b1 (fX12_readLeast S24) fun S99 => some S99 else (if gI_ S24 0 41 = 0 then b1 (fX12_readSecond S24) fun S97 => some S97 else some S24)) else (if gI_ S24 0 41 = 0 then b1 (fX12_readSecond S24) fun S95 => some S95 else some S24))) else (if gI_ S24 0 41 = 0 then (if gI_ S22 0 40 = 3 then b1 (fX12_readLeast S24) fun S92 => some S92 else (if gI_ S24 0 41 = 0 then b1 (fX12_readSecond S24) fun S90 => some S90 else some S24)) else (if gI_ S24 0 41 = 0 then b1 (fX12_readSecond S24) fun S88 => some S88 else some S24)))) else (if gI_ S24 0 41 = 0 then (if gI_ S22 0 40 = 1 then b1 (fX12_readBar S24) fun S85 => some S85 else (if gI_ S24 0 41 = 0 then (if gI_ S22 0 40 = 3 then b1 (fX12_readLeast S24) fun S82 => some S82 else (if gI_ S24 0 41 = 0 then b1 (fX12_readSecond S24) fun S80 => some S80 else some S24)) else (if gI_ S24 0 41 = 0 then b1 (fX12_readSecond S24) fun S78 => some S78 else some S24))) else (if gI_ S24 0 41 = 0 then (if gI_ S22 0 40 = 3 then b1 (fX12_readLeast S24) fun S75 => some S75 else (if gI_ S24 0 41 = 0 then b1 (fX12_readSecond S24) fun S73 => some S73 else some S24)) else (if gI_ S24 0 41 = 0 then b1 (fX12_readSecond S24) fun S71 => some S71 else some S24))))) else (if gI_ S24 0 41 = 0 then (if gI_ S22 0 40 = 0 then b1 (fX12_readStamp S24) fun S68 => some S68 else (if gI_ S24 0 41 = 0 then (if gI_ S22 0 40 = 1 then b1 (fX12_readBar S24) fun S65 => some S65 else (if gI_ S24 0 41 = 0 then (if gI_ S22 0 40 = 3 then b1 (fX12_readLeast S24) fun S62 => some S62 else (if gI_ S24 0 41 = 0 then b1 (fX12_readSecond S24) fun S60 => some S60 else some S24)) else (if gI_ S24 0 41 = 0 then b1 (fX12_readSecond S24) fun S58 => some S58 else some S24))) else (if gI_ S24 0 41 = 0 then (if gI_ S22 0 40 = 3 then b1 (fX12_readLeast S24) fun S55 => some S55 else (if gI_ S24 0 41 = 0 then b1 (fX12_readSecond S24) fun S53 => some S53 else some S24)) else (if gI_ S24 0 41 = 0 then b1 (fX12_readSecond S24) fun S51 => some S51 else some S24)))) else (if gI_ S24 0 41 = 0 then (if gI_ S22 0 40 = 1 then b1 (fX12_readBar S24) fun S48 => some S48 else (if gI_ S24 0 41 = 0 then (if gI_ S22 0 40 = 3 then b1 (fX12_readLeast S24) fun S45 => some S45 else (if gI_ S24 0 41 = 0 then b1 (fX12_readSecond S24) fun S43 => some S43 else some S24)) else (if gI_ S24 0 41 = 0 then b1 (fX12_readSecond S24) fun S41 => some S41 else some S24))) else (if gI_ S24 0 41 = 0 then (if gI_ S22 0 40 = 3 then b1 (fX12_readLeast S24) fun S38 => some S38 else (if gI_ S24 0 41 = 0 then b1 (fX12_readSecond S24) fun S36 => some S36 else some S24)) else (if gI_ S24 0 41 = 0 then b1 (fX12_readSecond S24) fun S34 => some S34 else some S24))))) : Option (St)) fun w25 => b1 (fX12_goesOn w25) fun S26 => b1 ((if gI_ S26 0 41 = 0 then b1 ((if gI_ S26 0 39 = 4 then some 1 else some 0) : Option (Int32)) fun w30 => b1 (fX12_wants S26 w30 2) fun S31 => some S31 else some S26) : Option (St)) fun w27 => b1 (fX12_goesOn w27) fun S28 => b1 (oI_ S28 0 56 ((gI_ S28 0 56) + 1)) fun S29 => some S29 else some S22)
def bX12_laws_23  (v26 : Int32) (S27 : St) : Option ((Int32 × St) ⊕ ((St))) :=
  (if 8 ≤ v26 then some (.inr S27) else b1 (wI_ S27 34 8 v26 (-4)) fun S28 => b1 (wI_ S28 35 8 v26 (-4)) fun S29 => b1 (wI_ S29 36 8 v26 0) fun S30 => b1 (wI_ S30 37 8 v26 (-4)) fun S31 => b1 (wI_ S31 38 8 v26 (-4)) fun S32 => some (.inl (v26 + 1, S32)))
def bX12_laws_78  (S37 : St) : Option ((St) ⊕ ((St))) :=
  (if gI_ S37 0 41 = 0 then (if gI_ S37 0 39 = 0 then some (.inr S37) else b1 (fX12_readLaw S37) fun S38 => some (.inl S38)) else some (.inr S37))
def fX12_laws (S : St) : Option (Int32 × St) :=
  b1 (oI_ S 0 41 0) fun S21 => b1 (oI_ S21 0 37 0) fun S22 => b1 (oI_ S22 0 53 (-4)) fun S23 => b1 (oI_ S23 0 56 0) fun S24 => b1 (lp (fun w25 : Int32 × St => bX12_laws_23  w25.1 w25.2) 5000 (0, S24)) fun u34 => b1 (fX12_next u34) fun S35 => b1 (lp (fun w36 : St => bX12_laws_78  w36) 5000 S35) fun u41 => b1 (oI_ u41 0 36 0) fun S42 => (if gI_ S42 0 41 ≤ 0 then b1 (fX12_takes S42) fun S43 => some (gI_ S43 0 49, S43) else some ((-10) - (gI_ S42 0 42), S42))
def fX12_fault (S : St) : Option Int32 :=
  some (gI_ S 0 41)
def fX12_stamp (S : St) (v1 : Int32) (v2 : Int32) : Option Int32 :=
  b1 (fX12_in S ((v1 : Int32).toInt64) 0 7) fun x21 => (if x21 = 0 then some (-1) else b1 (fX12_in S ((v2 : Int32).toInt64) 0 2) fun x22 => (if x22 = 0 then some (-1) else (if v2 = 0 then b1 (rI_ S 29 8 v1) fun x26 => some x26 else (if v2 = 1 then b1 (rI_ S 30 8 v1) fun x24 => some x24 else b1 (rI_ S 31 8 v1) fun x23 => some x23))))
def fX12_name (S : St) (v1 : Int32) (v2 : Int32) : Option Int32 :=
  b1 (fX12_in S ((v1 : Int32).toInt64) 0 7) fun x21 => (if x21 = 0 then some (-1) else b1 (fX12_in S ((v2 : Int32).toInt64) 0 2) fun x22 => (if x22 = 0 then some (-1) else (if v2 = 0 then b1 (rI_ S 32 8 v1) fun x26 => some x26 else (if v2 = 1 then b1 (rI_ S 33 8 v1) fun x24 => some x24 else b1 (fX12_wentOn S v1 (-4)) fun x23 => some x23))))
def bX12_findYears_18 (v1 : Int32) (v24 : Int32) (v25 : Int32) (S26 : St) : Option ((Int32 × Int32 × St) ⊕ ((Int32 × St))) :=
  (if 8 ≤ v25 then some (.inr (v24, S26)) else b1 (rI_ S26 25 12 v1) fun x27 => (if ((x27 : Int32) >>> ((v25 : Int32) &&& 31)) &&& 1 = 1 then b1 (rI_ S26 29 8 v25) fun x28 => b1 (fX12_greatest S26 (gI_ S26 0 57) x28) fun x29 => b1 (oI_ S26 0 57 x29) fun S30 => b1 (rI_ S30 30 8 v25) fun x31 => b1 (fX12_least S30 (gI_ S30 0 58) x31) fun x32 => b1 (oI_ S30 0 58 x32) fun S33 => (if v24 = 0 then b1 (rI_ S33 31 8 v25) fun x34 => b1 (rI_ S33 25 12 v1) fun x35 => (if x34 &&& x35 = 0 then some (.inl (0, v25 + 1, S33)) else some (.inl (1, v25 + 1, S33))) else some (.inl (1, v25 + 1, S33))) else some (.inl (v24, v25 + 1, S26))))
def fX12_findYears (S : St) (v1 : Int32) : Option St :=
  b1 (oI_ S 0 57 1800) fun S21 => b1 (oI_ S21 0 58 2000) fun S22 => b1 (lp (fun w23 : Int32 × Int32 × St => bX12_findYears_18 v1 w23.1 w23.2.1 w23.2.2) 5000 (0, 0, S22)) fun u40 => (if u40.1 = 0 then b1 (oI_ u40.2 0 58 (gI_ u40.2 0 58)) fun S41 => some S41 else b1 (oI_ u40.2 0 58 0) fun S42 => some S42)
def fX12_years (S : St) (v1 : Int32) (v2 : Int32) : Option (Int32 × St) :=
  b1 (fX12_in S ((v1 : Int32).toInt64) 0 (((gI_ S 0 28) - 1 : Int32).toInt64)) fun x21 => (if x21 = 0 then some ((-1), S) else b1 (fX12_in S ((v2 : Int32).toInt64) 0 2) fun x22 => (if x22 = 0 then some ((-1), S) else b1 (fX12_findYears S v1) fun S23 => b1 ((if gI_ S23 0 57 ≤ gI_ S23 0 58 then some (((gI_ S23 0 58) - (gI_ S23 0 57)) + 1) else some 0) : Option (Int32)) fun w24 => (if v2 = 0 then some (w24, S23) else (if w24 = 0 then some ((-4), S23) else (if v2 = 1 then some (gI_ S23 0 57, S23) else some (gI_ S23 0 58, S23))))))
def bX12_dated_20 (v1 : Int32) (v23 : Int32) (v24 : Int32) (S25 : St) : Option ((Int32 × Int32 × St) ⊕ ((Int32 × St))) :=
  (if gI_ S25 0 28 ≤ v24 then some (.inr (v23, S25)) else b1 (fX12_findYears S25 v24) fun S26 => b1 (fX12_in S26 ((v1 : Int32).toInt64) ((gI_ S26 0 57 : Int32).toInt64) ((gI_ S26 0 58 : Int32).toInt64)) fun x27 => (if x27 = 0 then some (.inl (v23 + 0, v24 + 1, S26)) else some (.inl (v23 + 1, v24 + 1, S26))))
def fX12_dated (S : St) (v1 : Int32) : Option (Int32 × St) :=
  b1 (fX12_in S ((v1 : Int32).toInt64) 1800 2000) fun x21 => (if x21 = 0 then some ((-1), S) else b1 (lp (fun w22 : Int32 × Int32 × St => bX12_dated_20 v1 w22.1 w22.2.1 w22.2.2) 5000 (0, 0, S)) fun u30 => some (u30.1, u30.2))
def bX12_findLot_32 (v1 : Int32) (v27 : Int32) (v28 : Int32) (v29 : Int32) (S30 : St) : Option ((Int32 × Int32 × Int32 × St) ⊕ ((St))) :=
  (if gI_ S30 0 28 ≤ v29 then some (.inr S30) else b1 (rI_ S30 22 12 v29) fun x31 => (if x31 = v1 then b1 (rI_ S30 26 12 v29) fun x32 => b1 ((if x32 ≤ 0 then b1 (rI_ S30 26 12 v29) fun x48 => (if 0 ≤ x48 then some 0 else some (-1)) else some 1) : Option (Int32)) fun w33 => b1 (oI_ S30 0 59 ((gI_ S30 0 59) + 1)) fun S34 => b1 (rI_ S34 26 12 v29) fun x35 => b1 (oI_ S34 0 60 ((gI_ S34 0 60) + x35)) fun S36 => b1 (rI_ S36 23 12 v29) fun x37 => b1 (oI_ S36 0 61 ((gI_ S36 0 61) + x37)) fun S38 => b1 (rI_ S38 24 12 v29) fun x39 => b1 ((if x39 = 0 then some 0 else some 1) : Option (Int32)) fun w40 => b1 (oI_ S38 0 62 ((gI_ S38 0 62) + w40)) fun S41 => b1 ((if w33 = 0 then some 0 else (if w33 = v28 then some (v27 + 1) else some 1)) : Option (Int32)) fun w42 => b1 (fX12_greatest S41 (gI_ S41 0 63) w42) fun x43 => b1 (oI_ S41 0 63 x43) fun S44 => some (.inl (w42, w33, v29 + 1, S44)) else some (.inl (v27, v28, v29 + 1, S30))))
def fX12_findLot (S : St) (v1 : Int32) : Option St :=
  b1 (oI_ S 0 59 0) fun S21 => b1 (oI_ S21 0 60 0) fun S22 => b1 (oI_ S22 0 61 0) fun S23 => b1 (oI_ S23 0 62 0) fun S24 => b1 (oI_ S24 0 63 0) fun S25 => b1 (lp (fun w26 : Int32 × Int32 × Int32 × St => bX12_findLot_32 v1 w26.1 w26.2.1 w26.2.2.1 w26.2.2.2) 5000 (0, 0, 0, S25)) fun u53 => some u53
def fX12_plain (S : St) (v0 : Int32) : Option Int32 :=
  (if 0 ≤ v0 then some v0 else some (-v0))
def fX12_isOff (S : St) : Option Int32 :=
  (if gI_ S 0 59 < 2 then some 0 else b1 (fX12_plain S (gI_ S 0 60)) fun x21 => (if x21 ≤ (gI_ S 0 46) * (gI_ S 0 59) then some 0 else some 1))
def fX12_lot (S : St) (v1 : Int32) (v2 : Int32) : Option (Int32 × St) :=
  b1 (fX12_in S ((v1 : Int32).toInt64) 0 5) fun x21 => (if x21 = 0 then some ((-10000), S) else b1 (fX12_in S ((v2 : Int32).toInt64) 0 5) fun x22 => (if x22 = 0 then some ((-10000), S) else b1 (fX12_findLot S v1) fun S23 => (if v2 = 0 then some (gI_ S23 0 59, S23) else (if v2 = 1 then some (gI_ S23 0 60, S23) else (if v2 = 2 then some (gI_ S23 0 61, S23) else (if v2 = 3 then some (gI_ S23 0 62, S23) else (if v2 = 4 then b1 (fX12_isOff S23) fun x28 => (if x28 = 0 then some (0, S23) else some (1, S23)) else some (gI_ S23 0 63, S23))))))))
def bX12_worst_10  (v22 : Int32) (v23 : Int32) (v24 : Int32) (v25 : Int32) (S26 : St) : Option ((Int32 × Int32 × Int32 × Int32 × St) ⊕ ((Int32 × St))) :=
  (if 6 ≤ v25 then some (.inr (v22, S26)) else b1 (fX12_findLot S26 v25) fun S27 => b1 (fX12_isOff S27) fun x28 => (if x28 = 0 then some (.inl (v22, v23, v24, v25 + 1, S27)) else (if v22 = (-4) then b1 (fX12_plain S27 (gI_ S27 0 60)) fun x29 => some (.inl (v25, x29, gI_ S27 0 59, v25 + 1, S27)) else b1 (fX12_plain S27 (gI_ S27 0 60)) fun x30 => (if x30 * v24 ≤ v23 * (gI_ S27 0 59) then some (.inl (v22, v23, v24, v25 + 1, S27)) else b1 (fX12_plain S27 (gI_ S27 0 60)) fun x31 => some (.inl (v25, x31, gI_ S27 0 59, v25 + 1, S27))))))
def fX12_worst (S : St) : Option (Int32 × St) :=
  b1 (lp (fun w21 : Int32 × Int32 × Int32 × Int32 × St => bX12_worst_10  w21.1 w21.2.1 w21.2.2.1 w21.2.2.2.1 w21.2.2.2.2) 5000 ((-4), 0, 1, 0, S)) fun u36 => some (u36.1, u36.2)
def fX12_isSheet (S : St) (v0 : Int32) (v1 : Int32) : Option Int32 :=
  b1 (fX12_in S ((v0 : Int32).toInt64) 0 3) fun x21 => (if x21 = 0 then some 0 else b1 (fX12_in S ((v1 : Int32).toInt64) 0 2) fun x22 => (if x22 = 0 then some 0 else some 1))
def bX12_sheet_40 (v1 : Int32) (v25 : Int32) (S26 : St) : Option ((Int32 × St) ⊕ ((St))) :=
  (if 64 ≤ v25 then some (.inr S26) else b1 (wI_ S26 41 256 ((64 * v1) + v25) 0) fun S27 => some (.inl (v25 + 1, S27)))
def fX12_sheet (S : St) (v1 : Int32) (v2 : Int32) (v3 : Int32) : Option (Int32 × St) :=
  b1 (fX12_isSheet S v1 v2) fun x21 => (if x21 = 0 then some ((-1), S) else (if v3 ≤ 64 then (if 0 ≤ v3 then b1 (wI_ S 39 4 v1 v2) fun S22 => b1 (wI_ S22 40 4 v1 v3) fun S23 => b1 (lp (fun w24 : Int32 × St => bX12_sheet_40 v1 w24.1 w24.2) 5000 (0, S23)) fun u29 => some (1, u29) else some ((-14), S)) else some ((-1), S)))
def fX12_lay (S : St) (v1 : Int32) (v2 : Int32) (v3 : Int32) : Option (Int32 × St) :=
  b1 (fX12_isSheet S v1 0) fun x21 => (if x21 = 0 then some ((-1), S) else b1 (rI_ S 39 4 v1) fun x22 => (if x22 = (-4) then some ((-11), S) else b1 (rI_ S 40 4 v1) fun x23 => b1 (fX12_in S ((v2 : Int32).toInt64) 0 ((x23 - 1 : Int32).toInt64)) fun x24 => (if x24 = 0 then some ((-12), S) else b1 (rI_ S 39 4 v1) fun x25 => (if x25 = 0 then b1 (wI_ S 41 256 ((64 * v1) + v2) ((v3 : Int32).toInt8.toInt32)) fun S30 => some (1, S30) else b1 (rI_ S 39 4 v1) fun x26 => (if x26 = 1 then b1 (wI_ S 41 256 ((64 * v1) + v2) ((v3 : Int32).toInt16.toInt32)) fun S28 => some (1, S28) else b1 (wI_ S 41 256 ((64 * v1) + v2) v3) fun S27 => some (1, S27))))))
def bX12_crackMany_4 (S : St) (v22 : Int32) (v23 : Int32) : Option ((Int32 × Int32) ⊕ ((Int32))) :=
  (if 64 ≤ v23 then some (.inr v22) else b1 (rI_ S 1 64 v23) fun x24 => (if x24 = 0 then some (.inl (v22 + 0, v23 + 1)) else some (.inl (v22 + 1, v23 + 1))))
def fX12_crackMany (S : St) : Option Int32 :=
  b1 (lp (fun w21 : Int32 × Int32 => bX12_crackMany_4 S w21.1 w21.2) 5000 (0, 0)) fun u27 => some u27
def bX12_draw_42 (S : St) (v1 : Int32) (v3 : Int32) (v24 : Int32) : Option ((Int32) ⊕ ((Unit) ⊕ (Int32 × St))) :=
  (if (gI_ S 0 0) * (gI_ S 0 1) ≤ v24 then some (.inr (.inl ())) else b1 (some (((v3 : Int32).toInt64) + ((v24 : Int32).toInt64))) fun x25 => (if lg_cmp x25 0 < 0 then some (.inr (.inr ((-12), S))) else b1 (rI_ S 40 4 v1) fun x26 => (if lg_cmp x25 ((x26 : Int32).toInt64) < 0 then b1 (rI_ S 41 256 ((64 * v1) + ((x25 : Int64).toInt32))) fun x27 => b1 (fX12_in S ((x27 : Int32).toInt64) 0 10) fun x28 => (if x28 = 0 then some (.inr (.inr ((-100) - v24, S))) else some (.inl (v24 + 1))) else some (.inr (.inr ((-12), S))))))
def bX12_draw_130 (v1 : Int32) (v3 : Int32) (v36 : Int32) (S37 : St) : Option ((Int32 × St) ⊕ ((St))) :=
  (if (gI_ S37 0 0) * (gI_ S37 0 1) ≤ v36 then some (.inr S37) else b1 (rI_ S37 41 256 (((64 * v1) + v3) + v36)) fun x38 => b1 (dv_ (gI_ S37 0 0)) fun x39 => b1 (dv_ (gI_ S37 0 0)) fun x40 => b1 (some ((8 * (v36 / (gI_ S37 0 0))) + (v36 - v36 / (gI_ S37 0 0) * (gI_ S37 0 0)))) fun x41 => b1 ((if x38 = 10 then some 1 else some 0) : Option (Int32)) fun w42 => b1 (wZ_ S37 1 64 x41 w42) fun S43 => (if x38 = 10 then b1 (wI_ S43 2 64 x41 0) fun S45 => some (.inl (v36 + 1, S45)) else b1 (wI_ S43 2 64 x41 x38) fun S44 => some (.inl (v36 + 1, S44))))
def fX12_draw (S : St) (v1 : Int32) (v2 : Int32) (v3 : Int32) : Option (Int32 × St) :=
  b1 (fX12_isSheet S v1 v2) fun x21 => (if x21 = 0 then some ((-1), S) else b1 (rI_ S 39 4 v1) fun x22 => (if x22 = v2 then bs (lp (fun w23 : Int32 => bX12_draw_42 S v1 v3 w23) 5000 0) (fun u33 => b1 (fX12_keeps S) fun S34 => b1 (lp (fun w35 : Int32 × St => bX12_draw_130 v1 v3 w35.1 w35.2) 5000 (0, S34)) fun u49 => b1 (fX12_crackMany u49) fun x50 => some (x50, u49)) (fun rr => some rr) else b1 (rI_ S 39 4 v1) fun x51 => (if x51 = (-4) then some ((-11), S) else some ((-13), S))))
def bX12_count_4  (v22 : Int32) (v23 : Int32) (S24 : St) : Option ((Int32 × Int32 × St) ⊕ ((Int32 × St))) :=
  (if 6 ≤ v23 then some (.inr (v22, S24)) else b1 (fX12_findLot S24 v23) fun S25 => b1 (fX12_isOff S25) fun x26 => (if x26 = 0 then some (.inl (v22 + 0, v23 + 1, S25)) else some (.inl (v22 + 1, v23 + 1, S25))))
def bX12_count_41 (u29 : Int32 × St) (v31 : Int32) (v32 : Int32) : Option ((Int32 × Int32) ⊕ ((Int32))) :=
  (if gI_ u29.2 0 28 ≤ v32 then some (.inr v31) else b1 (fX12_soldAs u29.2 v32) fun x33 => (if x33 = (-4) then some (.inl (v31 + 0, v32 + 1)) else b1 (fX12_soldAs u29.2 v32) fun x34 => b1 (rI_ u29.2 27 12 v32) fun x35 => (if x34 = x35 then some (.inl (v31 + 0, v32 + 1)) else some (.inl (v31 + 1, v32 + 1)))))
def fX12_count (S : St) (v1 : Int32) : Option (Int32 × St) :=
  b1 (lp (fun w21 : Int32 × Int32 × St => bX12_count_4  w21.1 w21.2.1 w21.2.2) 5000 (0, 0, S)) fun u29 => b1 (lp (fun w30 : Int32 × Int32 => bX12_count_41 u29 w30.1 w30.2) 5000 (0, 0)) fun u39 => (if v1 = 0 then some (gI_ u29.2 0 9, u29.2) else (if v1 = 1 then some (gI_ u29.2 0 28, u29.2) else (if v1 = 2 then b1 (fX12_crackMany u29.2) fun x42 => some (x42, u29.2) else (if v1 = 3 then some ((gI_ u29.2 0 0) * (gI_ u29.2 0 1), u29.2) else (if v1 = 4 then some (u29.1, u29.2) else (if v1 = 5 then b1 (rI_ u29.2 39 4 0) fun x46 => (if x46 = (-4) then some ((-4), u29.2) else b1 (rI_ u29.2 40 4 0) fun x47 => some (x47, u29.2)) else (if v1 = 6 then some (gI_ u29.2 0 4, u29.2) else (if v1 = 7 then some (gI_ u29.2 0 17, u29.2) else (if v1 = 8 then some (gI_ u29.2 0 22, u29.2) else (if v1 = 9 then some (gI_ u29.2 0 6, u29.2) else (if v1 = 10 then some (gI_ u29.2 0 49, u29.2) else (if v1 = 11 then some (gI_ u29.2 0 46, u29.2) else (if v1 = 12 then some (u39, u29.2) else some ((-1), u29.2))))))))))))))
