/-! deliver: what is kept closes up -/
def ix (p : Nat → Bool) : Nat → Nat → Nat
  | 0 => fun j => j
  | i + 1 => fun j => if p i = true ∧ j = fb_ct p i then i else ix p i j
theorem ix_lt {p : Nat → Bool} : ∀ {i j : Nat}, j < fb_ct p i → ix p i j < i
  | 0, j, h => by simp [fb_ct] at h
  | i + 1, j, h => by
    rw [fb_ct_succ] at h
    show (if p i = true ∧ j = fb_ct p i then i else ix p i j) < i + 1
    by_cases c : p i = true ∧ j = fb_ct p i
    · rw [if_pos c]; omega
    · rw [if_neg c]
      have : j < fb_ct p i := by
        cases q : p i
        · rw [q] at h; simpa using h
        · rw [q] at h
          have h' : j < fb_ct p i + 1 := h
          have : j ≠ fb_ct p i := fun z => c ⟨q, z⟩
          omega
      have := ix_lt this
      omega
theorem ix_new {p : Nat → Bool} {i : Nat} (h : p i = true) : ix p (i + 1) (fb_ct p i) = i := if_pos ⟨h, rfl⟩
theorem ix_old {p : Nat → Bool} {i j : Nat} (h : j ≠ fb_ct p i) : ix p (i + 1) j = ix p i j := if_neg (fun q => h q.2)
theorem ix_no {p : Nat → Bool} {i : Nat} (h : p i = false) (j : Nat) : ix p (i + 1) j = ix p i j := if_neg (fun q => by rw [h] at q; cases q.1)
theorem ct_yes {p : Nat → Bool} {i : Nat} (h : p i = true) : fb_ct p (i + 1) = fb_ct p i + 1 := by rw [fb_ct_succ, h]; rfl
theorem ct_no {p : Nat → Bool} {i : Nat} (h : p i = false) : fb_ct p (i + 1) = fb_ct p i := by rw [fb_ct_succ, h]; rfl
/-- a row that closes up in place, i items looked at -/
def Cu (p : Nat → Bool) (K : Nat) (f : Nat → Nat) (i : Nat) (S : St) (r : Nat) : Prop := (∀ j, j < fb_ct p i → aI_ S r j = nI (f (ix p i j))) ∧ ∀ j, i ≤ j → j < K → aI_ S r j = nI (f j)
theorem Cu.zero {p : Nat → Bool} {K r : Nat} {f : Nat → Nat} {S : St} (h : ∀ j, j < K → aI_ S r j = nI (f j)) : Cu p K f 0 S r := ⟨fun j hj => by simp [fb_ct] at hj, fun j _ hj => h j hj⟩
theorem Cu.no {p : Nat → Bool} {K r i : Nat} {f : Nat → Nat} {S S' : St} (h : Cu p K f i S r) (hp : p i = false) (he : ∀ j, aI_ S' r j = aI_ S r j) : Cu p K f (i + 1) S' r :=
  ⟨fun j hj => by rw [ct_no hp] at hj; rw [he, ix_no hp]; exact h.1 j hj, fun j a b => by rw [he]; exact h.2 j (by omega) b⟩
theorem Cu.yes {p : Nat → Bool} {K r i : Nat} {f : Nat → Nat} {S S' : St} (h : Cu p K f i S r) (hp : p i = true) (he : ∀ j, aI_ S' r j = if j = fb_ct p i then nI (f i) else aI_ S r j) : Cu p K f (i + 1) S' r := by
  have := fb_ct_le p i
  refine ⟨fun j hj => ?_, fun j a b => ?_⟩
  · rw [ct_yes hp] at hj
    rw [he]
    by_cases z : j = fb_ct p i
    · rw [if_pos z, z, ix_new hp]
    · rw [if_neg z, ix_old z]; exact h.1 j (by omega)
  · rw [he, if_neg (by omega)]; exact h.2 j (by omega) b
def pSt (a b : Nat) : Bool := (a == 37 && b == 4) || (decide (38 ≤ a) && decide (a ≤ 41))
def pOd (a b : Nat) : Bool := (a == 42 && b == 5) || (decide (43 ≤ a) && decide (a ≤ 45))
def pSm (a _b : Nat) : Bool := decide (13 ≤ a) && decide (a ≤ 16)
def pOm (a _b : Nat) : Bool := decide (17 ≤ a) && decide (a ≤ 19)
theorem add9 {S : St} {c : Nat} {a b d e : Int32} (h : gI_ S 37 4 = nI c) (hc : c < 12) : fX9_add S a b d e = some (nI (c + 1) - 1, pI_ (pA_ (pA_ (pA_ (pA_ S 38 c a) 39 c b) 40 c d) 41 c e) 37 4 (nI (c + 1))) := by
  unfold fX9_add
  have e1 : nI c + 1 = nI (c + 1) := nI_add _ 1
  rw [h, wI_n hc (by omega), b1_s]
  have h1 : gI_ (pA_ S 38 c a) 37 4 = nI c := h
  rw [h1, wI_n hc (by omega), b1_s]
  have h2 : gI_ (pA_ (pA_ S 38 c a) 39 c b) 37 4 = nI c := h
  rw [h2, wI_n hc (by omega), b1_s]
  have h3 : gI_ (pA_ (pA_ (pA_ S 38 c a) 39 c b) 40 c d) 37 4 = nI c := h
  rw [h3, wI_n hc (by omega), b1_s]
  have h4 : gI_ (pA_ (pA_ (pA_ (pA_ S 38 c a) 39 c b) 40 c d) 41 c e) 37 4 = nI c := h
  rw [h4, oI_e, b1_s, e1]
  simp only [gI_pI, gI_pL, gI_pA, gI_pB, gI_pR, gI_pW, gL_pI, gL_pL, gL_pA, gL_pB, gL_pR, gL_pW, aI_pI, aI_pL, aI_pA, aI_pB, aI_pR, aI_pW, aL_pI, aL_pL, aL_pA, aL_pB, aL_pR, aL_pW, gR_pI, gR_pL, gR_pA, gR_pB, gR_pR, gR_pW, and_self, if_true]
theorem add4 {S : St} {c : Nat} {a b d : Int32} (h : gI_ S 42 5 = nI c) (hc : c < 8) : fX4_add S a b d = some (nI (c + 1) - 1, pI_ (pA_ (pA_ (pA_ S 43 c a) 44 c b) 45 c d) 42 5 (nI (c + 1))) := by
  unfold fX4_add
  have e1 : nI c + 1 = nI (c + 1) := nI_add _ 1
  rw [h, wI_n hc (by omega), b1_s]
  have h1 : gI_ (pA_ S 43 c a) 42 5 = nI c := h
  rw [h1, wI_n hc (by omega), b1_s]
  have h2 : gI_ (pA_ (pA_ S 43 c a) 44 c b) 42 5 = nI c := h
  rw [h2, wI_n hc (by omega), b1_s]
  have h3 : gI_ (pA_ (pA_ (pA_ S 43 c a) 44 c b) 45 c d) 42 5 = nI c := h
  rw [h3, oI_e, b1_s, e1]
  simp only [gI_pI, gI_pL, gI_pA, gI_pB, gI_pR, gI_pW, gL_pI, gL_pL, gL_pA, gL_pB, gL_pR, gL_pW, aI_pI, aI_pL, aI_pA, aI_pB, aI_pR, aI_pW, aL_pI, aL_pL, aL_pA, aL_pB, aL_pR, aL_pW, gR_pI, gR_pL, gR_pA, gR_pB, gR_pR, gR_pW, and_self, if_true]
section DELIVER
variable {n K m : Nat} {p q : Nat → Bool} {kw kh kg ka os oa op : Nat → Nat}
theorem rem_x {S : St} (hk : Stk S 37 4 38 K kw kh kg ka) (hK : K ≤ 12) (hp : ∀ k, k < K → m.testBit k = !p k) : ∃ S', fX9_remove S (nI m) = some S' ∧ Stk S' 37 4 38 (fb_ct p K) (fun j => kw (ix p K j)) (fun j => kh (ix p K j)) (fun j => kg (ix p K j)) (fun j => ka (ix p K j)) ∧ Fr pSt S S' := by
  obtain ⟨u, eu, u1, u2, u3, u4, u5, u6⟩ := lp_inv (body := fun w22 : Int32 × St => bX9_remove_12 S (nI m) w22.1 w22.2) (fun i s => s.1 = nI i ∧ gI_ s.2 37 4 = nI (fb_ct p i) ∧ Fr pSt S s.2 ∧ Cu p K kw i s.2 38 ∧ Cu p K kh i s.2 39 ∧ Cu p K kg i s.2 40 ∧ Cu p K ka i s.2 41) (fun r => gI_ r 37 4 = nI (fb_ct p K) ∧ Fr pSt S r ∧ Cu p K kw K r 38 ∧ Cu p K kh K r 39 ∧ Cu p K kg K r 40 ∧ Cu p K ka K r 41) K (m := 5000) (s := (0, pI_ S 37 4 0)) (by omega) ⟨rfl, by simp [gI_pI, gI_pL, gI_pA, gI_pB, gI_pR, gI_pW, gL_pI, gL_pL, gL_pA, gL_pB, gL_pR, gL_pW, aI_pI, aI_pL, aI_pA, aI_pB, aI_pR, aI_pW, aL_pI, aL_pL, aL_pA, aL_pB, aL_pR, aL_pW, gR_pI, gR_pL, gR_pA, gR_pB, gR_pR, gR_pW]; rfl, Fr.pI rfl (Fr.refl _ _), Cu.zero (fun j hj => (hk.2 j hj).1), Cu.zero (fun j hj => (hk.2 j hj).2.1), Cu.zero (fun j hj => (hk.2 j hj).2.2.1), Cu.zero (fun j hj => (hk.2 j hj).2.2.2)⟩
    (by
      rintro i ⟨s1, s2⟩ hi ⟨k1, k2, k3, k4, k5, k6, k7⟩
      obtain rfl : s1 = _ := k1
      have k2' : gI_ s2 37 4 = nI (fb_ct p i) := k2
      have ei : nI i + 1 = nI (i + 1) := nI_add _ 1
      have cl := fb_ct_le p i
      left
      show ∃ s', bX9_remove_12 S (nI m) (nI i) s2 = _ ∧ _
      unfold bX9_remove_12
      rw [hk.1, if_neg (nI_ge hi (by omega)), bitm (by omega), hp i hi, ei]
      cases c : p i with
      | true =>
        have t1 : ((if (!true) = true then (1 : Int32) else 0) = 0) := rfl
        rw [if_pos t1, rI_n (by omega) (by omega), b1_s, rI_n (by omega) (by omega), b1_s, rI_n (by omega) (by omega), b1_s, rI_n (by omega) (by omega), b1_s, k4.2 i (Nat.le_refl _) hi, k5.2 i (Nat.le_refl _) hi, k6.2 i (Nat.le_refl _) hi, k7.2 i (Nat.le_refl _) hi, add9 k2' (by omega), b1_s]
        refine ⟨_, rfl, rfl, ?_, Fr.pI rfl (Fr.pA rfl (Fr.pA rfl (Fr.pA rfl (Fr.pA rfl k3)))), k4.yes c (fun j => by simp [gI_pI, gI_pL, gI_pA, gI_pB, gI_pR, gI_pW, gL_pI, gL_pL, gL_pA, gL_pB, gL_pR, gL_pW, aI_pI, aI_pL, aI_pA, aI_pB, aI_pR, aI_pW, aL_pI, aL_pL, aL_pA, aL_pB, aL_pR, aL_pW, gR_pI, gR_pL, gR_pA, gR_pB, gR_pR, gR_pW]), k5.yes c (fun j => by simp [gI_pI, gI_pL, gI_pA, gI_pB, gI_pR, gI_pW, gL_pI, gL_pL, gL_pA, gL_pB, gL_pR, gL_pW, aI_pI, aI_pL, aI_pA, aI_pB, aI_pR, aI_pW, aL_pI, aL_pL, aL_pA, aL_pB, aL_pR, aL_pW, gR_pI, gR_pL, gR_pA, gR_pB, gR_pR, gR_pW]), k6.yes c (fun j => by simp [gI_pI, gI_pL, gI_pA, gI_pB, gI_pR, gI_pW, gL_pI, gL_pL, gL_pA, gL_pB, gL_pR, gL_pW, aI_pI, aI_pL, aI_pA, aI_pB, aI_pR, aI_pW, aL_pI, aL_pL, aL_pA, aL_pB, aL_pR, aL_pW, gR_pI, gR_pL, gR_pA, gR_pB, gR_pR, gR_pW]), k7.yes c (fun j => by simp [gI_pI, gI_pL, gI_pA, gI_pB, gI_pR, gI_pW, gL_pI, gL_pL, gL_pA, gL_pB, gL_pR, gL_pW, aI_pI, aI_pL, aI_pA, aI_pB, aI_pR, aI_pW, aL_pI, aL_pL, aL_pA, aL_pB, aL_pR, aL_pW, gR_pI, gR_pL, gR_pA, gR_pB, gR_pR, gR_pW])⟩
        rw [ct_yes c]; simp [gI_pI, gI_pL, gI_pA, gI_pB, gI_pR, gI_pW, gL_pI, gL_pL, gL_pA, gL_pB, gL_pR, gL_pW, aI_pI, aI_pL, aI_pA, aI_pB, aI_pR, aI_pW, aL_pI, aL_pL, aL_pA, aL_pB, aL_pR, aL_pW, gR_pI, gR_pL, gR_pA, gR_pB, gR_pR, gR_pW]
      | false =>
        have t1 : ¬ ((if (!false) = true then (1 : Int32) else 0) = 0) := by decide
        rw [if_neg t1]
        exact ⟨_, rfl, rfl, by rw [ct_no c]; exact k2', k3, k4.no c (fun _ => rfl), k5.no c (fun _ => rfl), k6.no c (fun _ => rfl), k7.no c (fun _ => rfl)⟩)
    (by
      rintro ⟨s1, s2⟩ ⟨k1, k2, k3, k4, k5, k6, k7⟩
      obtain rfl : s1 = _ := k1
      refine ⟨s2, ?_, k2, k3, k4, k5, k6, k7⟩
      show bX9_remove_12 S (nI m) (nI K) s2 = _
      unfold bX9_remove_12
      rw [hk.1, if_pos (nI_le (Nat.le_refl _) (by omega))])
  refine ⟨u, ?_, ⟨u1, fun s hs => ⟨u3.1 s hs, u4.1 s hs, u5.1 s hs, u6.1 s hs⟩⟩, u2⟩
  unfold fX9_remove
  rw [oI_e, b1_s, eu, b1_s]
theorem remF_x {S : St} (hk : Odr S 42 5 43 n os oa op) (hn : n ≤ 8) (h46 : ∀ o, o < n → (aI_ S 46 o = -4 ↔ q o = true)) : ∃ S', fX4_removeFilled S = some S' ∧ Odr S' 42 5 43 (fb_ct q n) (fun j => os (ix q n j)) (fun j => oa (ix q n j)) (fun j => op (ix q n j)) ∧ Fr pOd S S' := by
  obtain ⟨u, eu, u1, u2, u3, u4, u5⟩ := lp_inv (body := fun w22 : Int32 × St => bX4_removeFilled_12 S w22.1 w22.2) (fun i s => s.1 = nI i ∧ gI_ s.2 42 5 = nI (fb_ct q i) ∧ Fr pOd S s.2 ∧ Cu q n os i s.2 43 ∧ Cu q n oa i s.2 44 ∧ Cu q n op i s.2 45) (fun r => gI_ r 42 5 = nI (fb_ct q n) ∧ Fr pOd S r ∧ Cu q n os n r 43 ∧ Cu q n oa n r 44 ∧ Cu q n op n r 45) n (m := 5000) (s := (0, pI_ S 42 5 0)) (by omega) ⟨rfl, by simp [gI_pI, gI_pL, gI_pA, gI_pB, gI_pR, gI_pW, gL_pI, gL_pL, gL_pA, gL_pB, gL_pR, gL_pW, aI_pI, aI_pL, aI_pA, aI_pB, aI_pR, aI_pW, aL_pI, aL_pL, aL_pA, aL_pB, aL_pR, aL_pW, gR_pI, gR_pL, gR_pA, gR_pB, gR_pR, gR_pW]; rfl, Fr.pI rfl (Fr.refl _ _), Cu.zero (fun j hj => (hk.2 j hj).1), Cu.zero (fun j hj => (hk.2 j hj).2.1), Cu.zero (fun j hj => (hk.2 j hj).2.2)⟩
    (by
      rintro i ⟨s1, s2⟩ hi ⟨k1, k2, k3, k4, k5, k6⟩
      obtain rfl : s1 = _ := k1
      have k2' : gI_ s2 42 5 = nI (fb_ct q i) := k2
      have k3' : Fr pOd S s2 := k3
      have ei : nI i + 1 = nI (i + 1) := nI_add _ 1
      have cl := fb_ct_le q i
      have a46 : aI_ s2 46 i = aI_ S 46 i := k3'.aI rfl
      left
      show ∃ s', bX4_removeFilled_12 S (nI i) s2 = _ ∧ _
      unfold bX4_removeFilled_12
      rw [hk.1, if_neg (nI_ge hi (by omega)), rI_n (by omega) (by omega), b1_s, a46, ei]
      cases c : q i with
      | true =>
        rw [if_pos ((h46 i hi).mpr c), rI_n (by omega) (by omega), b1_s, rI_n (by omega) (by omega), b1_s, rI_n (by omega) (by omega), b1_s, k4.2 i (Nat.le_refl _) hi, k5.2 i (Nat.le_refl _) hi, k6.2 i (Nat.le_refl _) hi, add4 k2' (by omega), b1_s]
        refine ⟨_, rfl, rfl, ?_, Fr.pI rfl (Fr.pA rfl (Fr.pA rfl (Fr.pA rfl k3'))), k4.yes c (fun j => by simp [gI_pI, gI_pL, gI_pA, gI_pB, gI_pR, gI_pW, gL_pI, gL_pL, gL_pA, gL_pB, gL_pR, gL_pW, aI_pI, aI_pL, aI_pA, aI_pB, aI_pR, aI_pW, aL_pI, aL_pL, aL_pA, aL_pB, aL_pR, aL_pW, gR_pI, gR_pL, gR_pA, gR_pB, gR_pR, gR_pW]), k5.yes c (fun j => by simp [gI_pI, gI_pL, gI_pA, gI_pB, gI_pR, gI_pW, gL_pI, gL_pL, gL_pA, gL_pB, gL_pR, gL_pW, aI_pI, aI_pL, aI_pA, aI_pB, aI_pR, aI_pW, aL_pI, aL_pL, aL_pA, aL_pB, aL_pR, aL_pW, gR_pI, gR_pL, gR_pA, gR_pB, gR_pR, gR_pW]), k6.yes c (fun j => by simp [gI_pI, gI_pL, gI_pA, gI_pB, gI_pR, gI_pW, gL_pI, gL_pL, gL_pA, gL_pB, gL_pR, gL_pW, aI_pI, aI_pL, aI_pA, aI_pB, aI_pR, aI_pW, aL_pI, aL_pL, aL_pA, aL_pB, aL_pR, aL_pW, gR_pI, gR_pL, gR_pA, gR_pB, gR_pR, gR_pW])⟩
        rw [ct_yes c]; simp [gI_pI, gI_pL, gI_pA, gI_pB, gI_pR, gI_pW, gL_pI, gL_pL, gL_pA, gL_pB, gL_pR, gL_pW, aI_pI, aI_pL, aI_pA, aI_pB, aI_pR, aI_pW, aL_pI, aL_pL, aL_pA, aL_pB, aL_pR, aL_pW, gR_pI, gR_pL, gR_pA, gR_pB, gR_pR, gR_pW]
      | false =>
        rw [if_neg (fun z => by rw [(h46 i hi).mp z] at c; cases c)]
        exact ⟨_, rfl, rfl, by rw [ct_no c]; exact k2', k3', k4.no c (fun _ => rfl), k5.no c (fun _ => rfl), k6.no c (fun _ => rfl)⟩)
    (by
      rintro ⟨s1, s2⟩ ⟨k1, k2, k3, k4, k5, k6⟩
      obtain rfl : s1 = _ := k1
      refine ⟨s2, ?_, k2, k3, k4, k5, k6⟩
      show bX4_removeFilled_12 S (nI n) s2 = _
      unfold bX4_removeFilled_12
      rw [hk.1, if_pos (nI_le (Nat.le_refl _) (by omega))])
  refine ⟨u, ?_, ⟨u1, fun s hs => ⟨u3.1 s hs, u4.1 s hs, u5.1 s hs⟩⟩, u2⟩
  unfold fX4_removeFilled
  rw [oI_e, b1_s, eu, b1_s]
theorem del_m12 {S : St} {su : Nat → Nat → Bool} {py : Nat → Nat} (hk : Odr S 0 22 17 n os oa op) (hn : n ≤ 8) (hK : K ≤ 12) (h21 : ∀ o, o < n → aI_ S 21 o = hv (fg n K su py o)) (hq : ∀ o, q o = (fg n K su py o).isNone) : ∃ u, lp (fun w22 : Int32 × Int32 × Int32 × St => bX12_deliver_12  w22.1 w22.2.1 w22.2.2.1 w22.2.2.2) 5000 (0, 0, 0, S) = some u ∧ (∃ m', u.1 = nI m' ∧ Msk n K su py n m') ∧ u.2.1 = nI (fb_ct q n) ∧ Fr pOm S u.2.2 ∧ Cu q n os n u.2.2 17 ∧ Cu q n oa n u.2.2 18 ∧ Cu q n op n u.2.2 19 := by
  refine lp_inv (body := fun w22 : Int32 × Int32 × Int32 × St => bX12_deliver_12  w22.1 w22.2.1 w22.2.2.1 w22.2.2.2) (fun i s => (∃ m', s.1 = nI m' ∧ Msk n K su py i m') ∧ s.2.1 = nI (fb_ct q i) ∧ s.2.2.1 = nI i ∧ Fr pOm S s.2.2.2 ∧ Cu q n os i s.2.2.2 17 ∧ Cu q n oa i s.2.2.2 18 ∧ Cu q n op i s.2.2.2 19) (fun u => (∃ m', u.1 = nI m' ∧ Msk n K su py n m') ∧ u.2.1 = nI (fb_ct q n) ∧ Fr pOm S u.2.2 ∧ Cu q n os n u.2.2 17 ∧ Cu q n oa n u.2.2 18 ∧ Cu q n op n u.2.2 19) n (by omega) ⟨⟨0, rfl, Msk.zero⟩, rfl, rfl, Fr.refl _ _, Cu.zero (fun j hj => (hk.2 j hj).1), Cu.zero (fun j hj => (hk.2 j hj).2.1), Cu.zero (fun j hj => (hk.2 j hj).2.2)⟩ ?_ ?_
  · rintro i ⟨s1, s2, s3, s4⟩ hi ⟨⟨m', k0, km⟩, k1, k2, k3, k4, k5, k6⟩
    obtain rfl : s1 = _ := k0
    obtain rfl : s2 = _ := k1
    obtain rfl : s3 = _ := k2
    have k3' : Fr pOm S s4 := k3
    have ei : nI i + 1 = nI (i + 1) := nI_add _ 1
    have cl := fb_ct_le q i
    have ec : nI (fb_ct q i) + 1 = nI (fb_ct q i + 1) := nI_add _ 1
    have g : gI_ s4 0 22 = nI n := by rw [k3'.gI rfl]; exact hk.1
    have a21 : aI_ s4 21 i = hv (fg n K su py i) := by rw [k3'.aI rfl]; exact h21 i hi
    have k4' : Cu q n os i s4 17 := k4
    have k5' : Cu q n oa i s4 18 := k5
    have k6' : Cu q n op i s4 19 := k6
    left
    show ∃ s', bX12_deliver_12 (nI m') (nI (fb_ct q i)) (nI i) s4 = _ ∧ _
    unfold bX12_deliver_12
    rw [g, if_neg (nI_ge hi (by omega)), rI_n (by omega) (by omega), b1_s, b1_s, a21, ei]
    cases c : fg n K su py i with
    | none =>
      have hv0 : hv none = -4 := rfl
      have qi : q i = true := by rw [hq, c]; rfl
      have b18 : aI_ (pA_ s4 17 (fb_ct q i) (nI (os i))) 18 i = nI (oa i) := by simp only [gI_pI, gI_pL, gI_pA, gI_pB, gI_pR, gI_pW, gL_pI, gL_pL, gL_pA, gL_pB, gL_pR, gL_pW, aI_pI, aI_pL, aI_pA, aI_pB, aI_pR, aI_pW, aL_pI, aL_pL, aL_pA, aL_pB, aL_pR, aL_pW, gR_pI, gR_pL, gR_pA, gR_pB, gR_pR, gR_pW]; rw [if_neg (by omega)]; exact k5'.2 i (Nat.le_refl _) hi
      have b19 : aI_ (pA_ (pA_ s4 17 (fb_ct q i) (nI (os i))) 18 (fb_ct q i) (nI (oa i))) 19 i = nI (op i) := by simp only [gI_pI, gI_pL, gI_pA, gI_pB, gI_pR, gI_pW, gL_pI, gL_pL, gL_pA, gL_pB, gL_pR, gL_pW, aI_pI, aI_pL, aI_pA, aI_pB, aI_pR, aI_pW, aL_pI, aL_pL, aL_pA, aL_pB, aL_pR, aL_pW, gR_pI, gR_pL, gR_pA, gR_pB, gR_pR, gR_pW]; rw [if_neg (by omega), if_neg (by omega)]; exact k6'.2 i (Nat.le_refl _) hi
      rw [if_pos hv0, rI_n (by omega) (by omega), b1_s, k4'.2 i (Nat.le_refl _) hi, wI_n (by omega) (by omega), b1_s, rI_n (by omega) (by omega), b1_s, b18, wI_n (by omega) (by omega), b1_s, rI_n (by omega) (by omega), b1_s, b19, wI_n (by omega) (by omega), b1_s, ec]
      exact ⟨_, rfl, ⟨m', rfl, km.none c⟩, by rw [ct_yes qi], rfl, Fr.pA rfl (Fr.pA rfl (Fr.pA rfl k3')), k4'.yes qi (fun j => by simp [gI_pI, gI_pL, gI_pA, gI_pB, gI_pR, gI_pW, gL_pI, gL_pL, gL_pA, gL_pB, gL_pR, gL_pW, aI_pI, aI_pL, aI_pA, aI_pB, aI_pR, aI_pW, aL_pI, aL_pL, aL_pA, aL_pB, aL_pR, aL_pW, gR_pI, gR_pL, gR_pA, gR_pB, gR_pR, gR_pW]), k5'.yes qi (fun j => by simp [gI_pI, gI_pL, gI_pA, gI_pB, gI_pR, gI_pW, gL_pI, gL_pL, gL_pA, gL_pB, gL_pR, gL_pW, aI_pI, aI_pL, aI_pA, aI_pB, aI_pR, aI_pW, aL_pI, aL_pL, aL_pA, aL_pB, aL_pR, aL_pW, gR_pI, gR_pL, gR_pA, gR_pB, gR_pR, gR_pW]), k6'.yes qi (fun j => by simp [gI_pI, gI_pL, gI_pA, gI_pB, gI_pR, gI_pW, gL_pI, gL_pL, gL_pA, gL_pB, gL_pR, gL_pW, aI_pI, aI_pL, aI_pA, aI_pB, aI_pR, aI_pW, aL_pI, aL_pL, aL_pA, aL_pB, aL_pR, aL_pW, gR_pI, gR_pL, gR_pA, gR_pB, gR_pR, gR_pW])⟩
    | some k =>
      have hk' := (fg_free c).1
      have n4 : ¬ hv (some k) = -4 := fun z => (m4_ne (a := k) (by omega)).mp z
      have qi : q i = false := by rw [hq, c]; rfl
      rw [if_neg n4, b1_s]
      exact ⟨_, rfl, ⟨_, orm (by omega), km.some hK c⟩, by rw [ct_no qi], rfl, k3', k4'.no qi (fun _ => rfl), k5'.no qi (fun _ => rfl), k6'.no qi (fun _ => rfl)⟩
  · rintro ⟨s1, s2, s3, s4⟩ ⟨⟨m', k0, km⟩, k1, k2, k3, k4, k5, k6⟩
    obtain rfl : s1 = _ := k0
    obtain rfl : s2 = _ := k1
    obtain rfl : s3 = _ := k2
    have k3' : Fr pOm S s4 := k3
    have g : gI_ s4 0 22 = nI n := by rw [k3'.gI rfl]; exact hk.1
    refine ⟨(nI m', nI (fb_ct q n), s4), ?_, ⟨m', rfl, km⟩, rfl, k3', k4, k5, k6⟩
    show bX12_deliver_12 (nI m') (nI (fb_ct q n)) (nI n) s4 = _
    unfold bX12_deliver_12
    rw [g, if_pos (nI_le (Nat.le_refl _) (by omega))]
theorem del_m106 {S : St} {u38 : Int32 × Int32 × St} (hu : u38.1 = nI m) (hk : Stk S 0 17 13 K kw kh kg ka) (hK : K ≤ 12) (hp : ∀ k, k < K → m.testBit k = !p k) : ∃ u, lp (fun w40 : Int32 × Int32 × St => bX12_deliver_106 u38 w40.1 w40.2.1 w40.2.2) 5000 (0, 0, S) = some u ∧ u.1 = nI (fb_ct p K) ∧ Fr pSm S u.2 ∧ Cu p K kw K u.2 13 ∧ Cu p K kh K u.2 14 ∧ Cu p K kg K u.2 15 ∧ Cu p K ka K u.2 16 := by
  refine lp_inv (body := fun w40 : Int32 × Int32 × St => bX12_deliver_106 u38 w40.1 w40.2.1 w40.2.2) (fun i s => s.1 = nI (fb_ct p i) ∧ s.2.1 = nI i ∧ Fr pSm S s.2.2 ∧ Cu p K kw i s.2.2 13 ∧ Cu p K kh i s.2.2 14 ∧ Cu p K kg i s.2.2 15 ∧ Cu p K ka i s.2.2 16) (fun u => u.1 = nI (fb_ct p K) ∧ Fr pSm S u.2 ∧ Cu p K kw K u.2 13 ∧ Cu p K kh K u.2 14 ∧ Cu p K kg K u.2 15 ∧ Cu p K ka K u.2 16) K (by omega) ⟨rfl, rfl, Fr.refl _ _, Cu.zero (fun j hj => (hk.2 j hj).1), Cu.zero (fun j hj => (hk.2 j hj).2.1), Cu.zero (fun j hj => (hk.2 j hj).2.2.1), Cu.zero (fun j hj => (hk.2 j hj).2.2.2)⟩ ?_ ?_
  · rintro i ⟨s1, s2, s3⟩ hi ⟨k1, k2, k3, k4, k5, k6, k7⟩
    obtain rfl : s1 = _ := k1
    obtain rfl : s2 = _ := k2
    have k3' : Fr pSm S s3 := k3
    have ei : nI i + 1 = nI (i + 1) := nI_add _ 1
    have cl := fb_ct_le p i
    have ec : nI (fb_ct p i) + 1 = nI (fb_ct p i + 1) := nI_add _ 1
    have g : gI_ s3 0 17 = nI K := by rw [k3'.gI rfl]; exact hk.1
    have k4' : Cu p K kw i s3 13 := k4
    have k5' : Cu p K kh i s3 14 := k5
    have k6' : Cu p K kg i s3 15 := k6
    have k7' : Cu p K ka i s3 16 := k7
    left
    show ∃ s', bX12_deliver_106 u38 (nI (fb_ct p i)) (nI i) s3 = _ ∧ _
    unfold bX12_deliver_106
    rw [g, if_neg (nI_ge hi (by omega)), hu, bitm (by omega), hp i hi, ei]
    cases c : p i with
    | true =>
      have t1 : ((if (!true) = true then (1 : Int32) else 0) = 0) := rfl
      have b14 : aI_ (pA_ s3 13 (fb_ct p i) (nI (kw i))) 14 i = nI (kh i) := by simp only [gI_pI, gI_pL, gI_pA, gI_pB, gI_pR, gI_pW, gL_pI, gL_pL, gL_pA, gL_pB, gL_pR, gL_pW, aI_pI, aI_pL, aI_pA, aI_pB, aI_pR, aI_pW, aL_pI, aL_pL, aL_pA, aL_pB, aL_pR, aL_pW, gR_pI, gR_pL, gR_pA, gR_pB, gR_pR, gR_pW]; rw [if_neg (by omega)]; exact k5'.2 i (Nat.le_refl _) hi
      have b15 : aI_ (pA_ (pA_ s3 13 (fb_ct p i) (nI (kw i))) 14 (fb_ct p i) (nI (kh i))) 15 i = nI (kg i) := by simp only [gI_pI, gI_pL, gI_pA, gI_pB, gI_pR, gI_pW, gL_pI, gL_pL, gL_pA, gL_pB, gL_pR, gL_pW, aI_pI, aI_pL, aI_pA, aI_pB, aI_pR, aI_pW, aL_pI, aL_pL, aL_pA, aL_pB, aL_pR, aL_pW, gR_pI, gR_pL, gR_pA, gR_pB, gR_pR, gR_pW]; rw [if_neg (by omega), if_neg (by omega)]; exact k6'.2 i (Nat.le_refl _) hi
      have b16 : aI_ (pA_ (pA_ (pA_ s3 13 (fb_ct p i) (nI (kw i))) 14 (fb_ct p i) (nI (kh i))) 15 (fb_ct p i) (nI (kg i))) 16 i = nI (ka i) := by simp only [gI_pI, gI_pL, gI_pA, gI_pB, gI_pR, gI_pW, gL_pI, gL_pL, gL_pA, gL_pB, gL_pR, gL_pW, aI_pI, aI_pL, aI_pA, aI_pB, aI_pR, aI_pW, aL_pI, aL_pL, aL_pA, aL_pB, aL_pR, aL_pW, gR_pI, gR_pL, gR_pA, gR_pB, gR_pR, gR_pW]; rw [if_neg (by omega), if_neg (by omega), if_neg (by omega)]; exact k7'.2 i (Nat.le_refl _) hi
      rw [if_pos t1, rI_n (by omega) (by omega), b1_s, k4'.2 i (Nat.le_refl _) hi, wI_n (by omega) (by omega), b1_s, rI_n (by omega) (by omega), b1_s, b14, wI_n (by omega) (by omega), b1_s, rI_n (by omega) (by omega), b1_s, b15, wI_n (by omega) (by omega), b1_s, rI_n (by omega) (by omega), b1_s, b16, wI_n (by omega) (by omega), b1_s, ec]
      exact ⟨_, rfl, by rw [ct_yes c], rfl, Fr.pA rfl (Fr.pA rfl (Fr.pA rfl (Fr.pA rfl k3'))), k4'.yes c (fun j => by simp [gI_pI, gI_pL, gI_pA, gI_pB, gI_pR, gI_pW, gL_pI, gL_pL, gL_pA, gL_pB, gL_pR, gL_pW, aI_pI, aI_pL, aI_pA, aI_pB, aI_pR, aI_pW, aL_pI, aL_pL, aL_pA, aL_pB, aL_pR, aL_pW, gR_pI, gR_pL, gR_pA, gR_pB, gR_pR, gR_pW]), k5'.yes c (fun j => by simp [gI_pI, gI_pL, gI_pA, gI_pB, gI_pR, gI_pW, gL_pI, gL_pL, gL_pA, gL_pB, gL_pR, gL_pW, aI_pI, aI_pL, aI_pA, aI_pB, aI_pR, aI_pW, aL_pI, aL_pL, aL_pA, aL_pB, aL_pR, aL_pW, gR_pI, gR_pL, gR_pA, gR_pB, gR_pR, gR_pW]), k6'.yes c (fun j => by simp [gI_pI, gI_pL, gI_pA, gI_pB, gI_pR, gI_pW, gL_pI, gL_pL, gL_pA, gL_pB, gL_pR, gL_pW, aI_pI, aI_pL, aI_pA, aI_pB, aI_pR, aI_pW, aL_pI, aL_pL, aL_pA, aL_pB, aL_pR, aL_pW, gR_pI, gR_pL, gR_pA, gR_pB, gR_pR, gR_pW]), k7'.yes c (fun j => by simp [gI_pI, gI_pL, gI_pA, gI_pB, gI_pR, gI_pW, gL_pI, gL_pL, gL_pA, gL_pB, gL_pR, gL_pW, aI_pI, aI_pL, aI_pA, aI_pB, aI_pR, aI_pW, aL_pI, aL_pL, aL_pA, aL_pB, aL_pR, aL_pW, gR_pI, gR_pL, gR_pA, gR_pB, gR_pR, gR_pW])⟩
    | false =>
      have t1 : ¬ ((if (!false) = true then (1 : Int32) else 0) = 0) := by decide
      rw [if_neg t1]
      exact ⟨_, rfl, by rw [ct_no c], rfl, k3', k4'.no c (fun _ => rfl), k5'.no c (fun _ => rfl), k6'.no c (fun _ => rfl), k7'.no c (fun _ => rfl)⟩
  · rintro ⟨s1, s2, s3⟩ ⟨k1, k2, k3, k4, k5, k6, k7⟩
    obtain rfl : s1 = _ := k1
    obtain rfl : s2 = _ := k2
    have k3' : Fr pSm S s3 := k3
    have g : gI_ s3 0 17 = nI K := by rw [k3'.gI rfl]; exact hk.1
    refine ⟨(nI (fb_ct p K), s3), ?_, rfl, k3', k4, k5, k6, k7⟩
    show bX12_deliver_106 u38 (nI (fb_ct p K)) (nI K) s3 = _
    unfold bX12_deliver_106
    rw [g, if_pos (nI_le (Nat.le_refl _) (by omega))]
end DELIVER
