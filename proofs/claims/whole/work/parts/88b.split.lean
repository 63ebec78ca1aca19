/-! the class's rows of tokens, the whole tape -/
def kd (y : Nat → Nat) (n t : Nat) : Nat := if tst_ y n t < n then tkK y n (tst_ y n t) else 0
def vl (y : Nat → Nat) (n t : Nat) : Nat := if tst_ y n t < n then tkV y n (tst_ y n t) else 0
def pTk (a b : Nat) : Bool := (a == 56 && b == 5) || (decide (58 ≤ a) && decide (a ≤ 60))
section SPLIT
variable {S : St} {y : Nat → Nat} {n : Nat}
theorem note_x {S : St} {c : Nat} {a b d : Int32} (h : gI_ S 56 5 = nI c) (hc : c < 201) : fX10_note S a b d = some (pI_ (pA_ (pA_ (pA_ S 58 c a) 59 c b) 60 c d) 56 5 (nI (c + 1))) := by
  unfold fX10_note
  have e1 : nI c + 1 = nI (c + 1) := nI_add _ 1
  rw [h, wI_n hc (by omega), b1_s]
  have h1 : gI_ (pA_ S 58 c a) 56 5 = nI c := h
  rw [h1, wI_n hc (by omega), b1_s]
  have h2 : gI_ (pA_ (pA_ S 58 c a) 59 c b) 56 5 = nI c := h
  rw [h2, wI_n hc (by omega), b1_s]
  have h3 : gI_ (pA_ (pA_ (pA_ S 58 c a) 59 c b) 60 c d) 56 5 = nI c := h
  rw [h3, oI_e, b1_s, e1]
def TkR (y : Nat → Nat) (n c : Nat) (S : St) : Prop := ∀ t, t < c → aI_ S 58 t = nI (kd y n t) ∧ aI_ S 59 t = nI (vl y n t) ∧ aI_ S 60 t = nI (tst_ y n t)
theorem TkR.push {c : Nat} {S : St} {v : Int32} (h : TkR y n c S) : TkR y n (c + 1) (pI_ (pA_ (pA_ (pA_ S 58 c (nI (kd y n c))) 59 c (nI (vl y n c))) 60 c (nI (tst_ y n c))) 56 5 v) := fun t ht => by
  simp only [gI_pI, gI_pL, gI_pA, gI_pB, gI_pR, gI_pW, gL_pI, gL_pL, gL_pA, gL_pB, gL_pR, gL_pW, aI_pI, aI_pL, aI_pA, aI_pB, aI_pR, aI_pW, aL_pI, aL_pL, aL_pA, aL_pB, aL_pR, aL_pW, gR_pI, gR_pL, gR_pA, gR_pB, gR_pR, gR_pW]
  by_cases z : t = c
  · simp [z]
  · have := h t (by omega)
    simp [z, this]
theorem split_x (ht : Tap S 56 1 57 n y) (hn : n ≤ 200) (hb : ∀ i, i < n → y i < 256) : ∃ S' c, fX10_split S = some S' ∧ Fr pTk S S' ∧ c ≤ 200 ∧ gI_ S' 56 5 = nI (c + 1) ∧ tst_ y n c = n ∧ (∀ t, t < c → tst_ y n t < n) ∧ TkR y n (c + 1) S' := by
  obtain ⟨u, eu, c, u1, u2, u3, u4, u5, u6⟩ := lp_inv (body := fun w22 : Int32 × Int32 × St => bX10_split_9  w22.1 w22.2.1 w22.2.2) (fun i s => ∃ p c, s.1 = nI p ∧ s.2.1 = nI i ∧ i ≤ p ∧ p ≤ n ∧ c ≤ p ∧ gI_ s.2.2 56 5 = nI c ∧ Fr pTk S s.2.2 ∧ tst_ y n c = run (fun k => isS (y k)) n p ∧ (∀ t, t < c → tst_ y n t < n) ∧ TkR y n c s.2.2) (fun r => ∃ c, c ≤ 200 ∧ gI_ r 56 5 = nI c ∧ Fr pTk S r ∧ tst_ y n c = n ∧ (∀ t, t < c → tst_ y n t < n) ∧ TkR y n c r) 200 (m := 5000) (s := (0, 0, pI_ S 56 5 0)) (by omega) ⟨0, 0, rfl, rfl, by omega, by omega, by omega, by simp [gI_pI, gI_pL, gI_pA, gI_pB, gI_pR, gI_pW, gL_pI, gL_pL, gL_pA, gL_pB, gL_pR, gL_pW, aI_pI, aI_pL, aI_pA, aI_pB, aI_pR, aI_pW, aL_pI, aL_pL, aL_pA, aL_pB, aL_pR, aL_pW, gR_pI, gR_pL, gR_pA, gR_pB, gR_pR, gR_pW]; rfl, Fr.pI rfl (Fr.refl _ _), rfl, fun t h => by omega, fun t h => by omega⟩
    (by
      rintro i ⟨s1, s2, s3⟩ hi ⟨p, c, k1, k2, k3, k4, k5, k6, k7, k8, k9, k10⟩
      obtain rfl : s1 = _ := k1
      obtain rfl : s2 = _ := k2
      have k6' : gI_ s3 56 5 = nI c := k6
      have k7' : Fr pTk S s3 := k7
      have k10' : TkR y n c s3 := k10
      have ht' : Tap s3 56 1 57 n y := ht.fr k7' rfl (fun j => rfl)
      have ei : nI i + 1 = nI (i + 1) := nI_add _ 1
      have g2 : ¬ (200 : Int32) ≤ nI i := nI_ge hi (by decide)
      show (∃ s', bX10_split_9 (nI p) (nI i) s3 = _ ∧ _) ∨ (∃ r, bX10_split_9 (nI p) (nI i) s3 = _ ∧ _)
      unfold bX10_split_9
      rw [if_neg g2, ht'.1]
      by_cases e : p < n
      · have g := tkE_gt y n p
        have l := tkE_le (y := y) e
        have bp := hb p e
        rw [if_neg (nI_ge e (by omega)), end_x ht' hn hb e, b1_s, rI_n (by omega) (by omega), b1_s, ht'.2 p e, ei]
        left
        by_cases sp : y p = 32
        · have c' : nI (y p) = (32 : Int32) := by rw [sp]; rfl
          have te : tkE y n p = p + 1 := by
            unfold tkE
            rw [sp]; rfl
          rw [if_pos c']
          exact ⟨_, rfl, tkE y n p, c, rfl, rfl, by omega, l, by omega, k6', k7', by rw [k8, te]; exact run_go e (by simp [isS, sp]), k9, k10'⟩
        · have c' : ¬ nI (y p) = (32 : Int32) := fun q => sp ((nI_eq (b := 32) (by omega) (by omega)).mp q)
          have tc : tst_ y n c = p := by rw [k8]; exact run_stop (by omega) (fun _ => by simp [isS, sp])
          have ek : kd y n c = tkK y n p := by unfold kd; rw [tc, if_pos e]
          have ev : vl y n c = tkV y n p := by unfold vl; rw [tc, if_pos e]
          rw [if_neg c', kind_x ht' hn hb e, b1_s, val_x ht' hn hb e, b1_s, note_x k6' (by omega), b1_s]
          refine ⟨_, rfl, tkE y n p, c + 1, rfl, rfl, by omega, l, by omega, by simp [gI_pI, gI_pL, gI_pA, gI_pB, gI_pR, gI_pW, gL_pI, gL_pL, gL_pA, gL_pB, gL_pR, gL_pW, aI_pI, aI_pL, aI_pA, aI_pB, aI_pR, aI_pW, aL_pI, aL_pL, aL_pA, aL_pB, aL_pR, aL_pW, gR_pI, gR_pL, gR_pA, gR_pB, gR_pR, gR_pW], Fr.pI rfl (Fr.pA rfl (Fr.pA rfl (Fr.pA rfl k7'))), ?_, fun t h => ?_, ?_⟩
          · show (if tst_ y n c < n then run (fun k => isS (y k)) n (tkE y n (tst_ y n c)) else n) = _
            rw [tc, if_pos e]
          · by_cases z : t = c
            · rw [z, tc]; exact e
            · exact k9 t (by omega)
          · have := k10'.push (v := nI (c + 1))
            rw [ek, ev, tc] at this
            exact this
      · have pn : p = n := by omega
        rw [if_pos (nI_le (by omega) (by omega))]
        exact Or.inr ⟨_, rfl, c, by omega, k6', k7', by rw [k8, pn]; exact run_stop (Nat.le_refl _) (fun q => by omega), k9, k10'⟩)
    (by
      rintro ⟨s1, s2, s3⟩ ⟨p, c, k1, k2, k3, k4, k5, k6, k7, k8, k9, k10⟩
      obtain rfl : s1 = _ := k1
      obtain rfl : s2 = _ := k2
      have pn : p = n := by omega
      have g2 : (200 : Int32) ≤ nI 200 := by decide
      refine ⟨s3, ?_, c, by omega, k6, k7, by rw [k8, pn]; exact run_stop (Nat.le_refl _) (fun q => by omega), k9, k10⟩
      show bX10_split_9 (nI p) (nI 200) s3 = _
      unfold bX10_split_9
      rw [if_pos g2])
  have ek : kd y n c = 0 := by unfold kd; rw [u4, if_neg (by omega)]
  have ev : vl y n c = 0 := by unfold vl; rw [u4, if_neg (by omega)]
  have g1 : gI_ u 56 1 = nI n := by rw [u3.gI rfl]; exact ht.1
  have en := note_x (a := 0) (b := 0) (d := nI n) u2 (by omega)
  refine ⟨pI_ (pA_ (pA_ (pA_ u 58 c 0) 59 c 0) 60 c (nI n)) 56 5 (nI (c + 1)), c, ?_, Fr.pI rfl (Fr.pA rfl (Fr.pA rfl (Fr.pA rfl u3))), u1, ?_, u4, u5, ?_⟩
  · unfold fX10_split
    rw [oI_e, b1_s, eu, b1_s, g1, en, b1_s]
  · simp [gI_pI, gI_pL, gI_pA, gI_pB, gI_pR, gI_pW, gL_pI, gL_pL, gL_pA, gL_pB, gL_pR, gL_pW, aI_pI, aI_pL, aI_pA, aI_pB, aI_pR, aI_pW, aL_pI, aL_pL, aL_pA, aL_pB, aL_pR, aL_pW, gR_pI, gR_pL, gR_pA, gR_pB, gR_pR, gR_pW]
  · have := u6.push (v := nI (c + 1))
    rw [ek, ev, u4] at this
    exact this
end SPLIT
