/-! orders: the class's best sum -/
theorem paid_x {n : Nat} {py : Nat → Nat} {M : Nat → Bool} {S : St} {v : Int32} (hn : n ≤ 8) (g : gI_ S 42 5 = nI n) (hp : ∀ o, o < n → aI_ S 45 o = nI (py o)) (hb : ∀ o, o < n → 1 ≤ py o ∧ py o ≤ 1000) (hv : ∀ i, i < 32 → bt v i = M i) (ex : ∃ o, o < n ∧ M o = true) : ∃ x, fX4_bestPaid S v = some (nI x) ∧ x < n ∧ M x = true ∧ ∀ o, o < n → M o = true → py o ≤ py x := by
  obtain ⟨r, e, x, rfl, h1, h2, h3⟩ := lp_inv (body := fun w21 : Int32 × Int32 × Int32 => bX4_bestPaid_7 S v w21.1 w21.2.1 w21.2.2) (fun i s => ∃ b p, s.1 = nI b ∧ s.2.1 = nI p ∧ s.2.2 = nI i ∧ p ≤ 1000 ∧ (∀ o, o < i → M o = true → py o ≤ p) ∧ (p = 0 ∨ (b < n ∧ M b = true ∧ py b = p))) (fun r => ∃ x, r = nI x ∧ x < n ∧ M x = true ∧ ∀ o, o < n → M o = true → py o ≤ py x) n (m := 5000) (s := (0, 0, 0)) (by omega) ⟨0, 0, rfl, rfl, rfl, by omega, fun o h => by omega, Or.inl rfl⟩
    (by
      rintro i ⟨s1, s2, s3⟩ hi ⟨b, p, k1, k2, k3, k4, k5, k6⟩
      obtain rfl : s1 = _ := k1
      obtain rfl : s2 = _ := k2
      obtain rfl : s3 = _ := k3
      left
      have ei : nI i + 1 = nI (i + 1) := nI_add _ 1
      have bi := hb i hi
      show ∃ s', bX4_bestPaid_7 S v (nI b) (nI p) (nI i) = _ ∧ _
      unfold bX4_bestPaid_7
      rw [g, if_neg (nI_ge hi (by omega)), bit1_i (by omega), hv i (by omega), rI_n (by omega) (by omega), b1_s, b1_s, hp i hi, ei]
      cases q : M i with
      | true =>
        have t1 : ((if true = true then (1 : Int32) else 0) = 1) := rfl
        rw [if_pos t1]
        by_cases c : py i ≤ p
        · rw [if_pos (nI_le c (by omega))]
          refine ⟨_, rfl, b, p, rfl, rfl, rfl, k4, fun o ho hm => ?_, k6⟩
          by_cases z : o = i
          · rw [z]; exact c
          · exact k5 o (by omega) hm
        · rw [if_neg (nI_ge (by omega) (by omega))]
          refine ⟨_, rfl, i, py i, rfl, rfl, rfl, bi.2, fun o ho hm => ?_, Or.inr ⟨hi, q, rfl⟩⟩
          by_cases z : o = i
          · rw [z]; exact Nat.le_refl _
          · have := k5 o (by omega) hm
            omega
      | false =>
        have t0 : ¬ ((if false = true then (1 : Int32) else 0) = 1) := by decide
        rw [if_neg t0]
        refine ⟨_, rfl, b, p, rfl, rfl, rfl, k4, fun o ho hm => ?_, k6⟩
        by_cases z : o = i
        · rw [z, q] at hm; cases hm
        · exact k5 o (by omega) hm)
    (by
      rintro ⟨s1, s2, s3⟩ ⟨b, p, k1, k2, k3, k4, k5, k6⟩
      obtain rfl : s1 = _ := k1
      obtain rfl : s2 = _ := k2
      obtain rfl : s3 = _ := k3
      obtain ⟨o, ho, hm⟩ := ex
      have := k5 o ho hm
      have := hb o ho
      have k6' := k6.resolve_left (by omega)
      refine ⟨nI b, ?_, b, rfl, k6'.1, k6'.2.1, fun o ho hm => by rw [k6'.2.2]; exact k5 o ho hm⟩
      show bX4_bestPaid_7 S v (nI b) (nI p) (nI n) = _
      unfold bX4_bestPaid_7
      rw [g, if_pos (nI_le (Nat.le_refl _) (by omega))])
  refine ⟨x, ?_, h1, h2, h3⟩
  unfold fX4_bestPaid
  rw [e, b1_s]
def pBs (a b : Nat) : Bool := a == 48 || (a == 42 && (b == 9 || b == 10))
/-- what stands fast while the class fills orders -/
def EvX (n K : Nat) (su : Nat → Nat → Bool) (py : Nat → Nat) (S : St) : Prop :=
  gI_ S 37 4 = nI K ∧ gI_ S 42 5 = nI n ∧ (∀ o, o < n → ∀ i, i < 32 → bt (aI_ S 47 o) i = (decide (i < K) && su o i)) ∧ ∀ o, o < n → aI_ S 45 o = nI (py o)
theorem EvX.fr {n K : Nat} {su : Nat → Nat → Bool} {py : Nat → Nat} {S S' : St} (h : EvX n K su py S) (hf : Fr pBs S S') : EvX n K su py S' :=
  ⟨by rw [hf.gI rfl]; exact h.1, by rw [hf.gI rfl]; exact h.2.1, fun o ho i hi => by rw [hf.aI rfl]; exact h.2.2.1 o ho i hi, fun o ho => by rw [hf.aI rfl]; exact h.2.2.2 o ho⟩
theorem none_x {S : St} : ∃ r, lp (fun w21 : Int32 × St => bX4_bestSum_2  w21.1 w21.2) 5000 (0, S) = some r ∧ Fr pBs S r ∧ ∀ k, k < 12 → aI_ r 48 k = -4 := by
  refine lp_inv (body := fun w21 : Int32 × St => bX4_bestSum_2  w21.1 w21.2) (fun i s => s.1 = nI i ∧ Fr pBs S s.2 ∧ ∀ k, k < i → aI_ s.2 48 k = -4) (fun r => Fr pBs S r ∧ ∀ k, k < 12 → aI_ r 48 k = -4) 12 (by omega) ⟨rfl, Fr.refl _ _, fun k h => by omega⟩ ?_ ?_
  · rintro i ⟨s1, s2⟩ hi ⟨k1, k2, k3⟩
    obtain rfl : s1 = _ := k1
    left
    have ei : nI i + 1 = nI (i + 1) := nI_add _ 1
    have g : ¬ (12 : Int32) ≤ nI i := nI_ge hi (by decide)
    refine ⟨(nI (i + 1), pA_ s2 48 i (-4)), ?_, rfl, Fr.pA rfl k2, fun k hk => ?_⟩
    · show bX4_bestSum_2 (nI i) s2 = _
      unfold bX4_bestSum_2
      rw [if_neg g, wI_n hi (by omega), b1_s, ei]
    · simp only [gI_pI, gI_pL, gI_pA, gI_pB, gI_pR, gI_pW, gL_pI, gL_pL, gL_pA, gL_pB, gL_pR, gL_pW, aI_pI, aI_pL, aI_pA, aI_pB, aI_pR, aI_pW, aL_pI, aL_pL, aL_pA, aL_pB, aL_pR, aL_pW, gR_pI, gR_pL, gR_pA, gR_pB, gR_pR, gR_pW, true_and]
      by_cases z : k = i
      · rw [if_pos z]
      · rw [if_neg z]; exact k3 k (by omega)
  · rintro ⟨s1, s2⟩ ⟨k1, k2, k3⟩
    obtain rfl : s1 = _ := k1
    have g : (12 : Int32) ≤ nI 12 := by decide
    refine ⟨s2, ?_, k2, k3⟩
    show bX4_bestSum_2 (nI 12) s2 = _
    unfold bX4_bestSum_2
    rw [if_pos g]
/-- the state of the greedy choice: P = looked at, M = not yet, Sx = taken -/
def Gre (n K : Nat) (su : Nat → Nat → Bool) (py : Nat → Nat) (B M P Sx A : Nat → Bool) (hd : Nat → Option Nat) : Prop :=
  Crd n K su py B P Sx ∧ Hd n K su B P hd ∧ Shd n Sx hd ∧ Clo K su B A hd ∧ Rej n K su B P Sx A ∧ (∀ o, o < n → P o = true → M o = false) ∧ (∀ o x, o < n → x < n → P o = true → M x = true → py x ≤ py o)
theorem gre_fail {n K x : Nat} {su : Nat → Nat → Bool} {py : Nat → Nat} {B M P Sx A T' : Nat → Bool} {hd : Nat → Option Nat} (h : Gre n K su py B M P Sx A hd) (hx : x < n) (hM : M x = true) (hm : ∀ o, o < n → M o = true → py o ≤ py x) (hF : Fai K su B hd (fun _ => false) x T') : Gre n K su py B (fun o => if o = x then false else M o) (fun o => if o = x then true else P o) Sx (fun k => A k || T' k) hd := by
  obtain ⟨c, h1, h3, h2, h4, h5, h6⟩ := h
  obtain ⟨f1, f2, f3⟩ := hF
  have h1' : Hd n K su B (fun o => if o = x then true else P o) hd := ⟨fun k o e => by
    obtain ⟨a1, a2, a3, a4, a5⟩ := h1.1 k o e
    exact ⟨a1, a2, a3, a4, by by_cases z : o = x <;> simp [z, a5]⟩, h1.2⟩
  have h2' : Clo K su B (fun k => A k || T' k) hd := fun k hk => by
    rcases (Bool.or_eq_true _ _).mp hk with q | q
    · obtain ⟨a1, o, a2, a3⟩ := h2 k q
      exact ⟨a1, o, a2, fun k' b1 b2 b3 => by simp [a3 k' b1 b2 b3]⟩
    · obtain ⟨a1, o, a2, a3⟩ := f3 k q rfl
      exact ⟨a1, o, a2, fun k' b1 b2 b3 => by simp [a3 k' b1 b2 b3]⟩
  have h4' : Rej n K su B (fun o => if o = x then true else P o) Sx (fun k => A k || T' k) := fun o ho hp hs k' b1 b2 b3 => by
    by_cases z : o = x
    · rw [z] at b3; simp [f2 k' b1 b2 b3]
    · simp only [z, if_false] at hp
      simp [h4 o ho hp hs k' b1 b2 b3]
  refine ⟨card_step (x := x) c (fun o ho => ?_) (fun o ho hp => h6 o x ho hx hp hM) (fun o _ z => z) h1' h2' h3 h4', h1', h3, h2', h4', fun o ho hp => ?_, fun o y ho hy hp hm' => ?_⟩
  · by_cases z : o = x <;> simp [z]
  · by_cases z : o = x
    · simp [z]
    · simp only [z, if_false] at hp ⊢; exact h5 o ho hp
  · by_cases zy : y = x
    · simp [zy] at hm'
    · simp only [zy, if_false] at hm'
      by_cases z : o = x
      · rw [z]; exact hm y hy hm'
      · simp only [z, if_false] at hp; exact h6 o y ho hy hp hm'
theorem gre_suc {n K x : Nat} {su : Nat → Nat → Bool} {py : Nat → Nat} {B M P Sx A : Nat → Bool} {hd hd' : Nat → Option Nat} (h : Gre n K su py B M P Sx A hd) (hx : x < n) (hM : M x = true) (hm : ∀ o, o < n → M o = true → py o ≤ py x) (hS : Suc n K su B hd (fun _ => false) x hd') : Gre n K su py B (fun o => if o = x then false else M o) (fun o => if o = x then true else P o) (fun o => if o = x then true else Sx o) A hd' := by
  obtain ⟨c, h1, h3, h2, h4, h5, h6⟩ := h
  obtain ⟨s1, ⟨ks, s2, s2'⟩, s3, s4, s5, s6⟩ := hS
  have h1' : Hd n K su B (fun o => if o = x then true else P o) hd' := ⟨fun k o e => by
    obtain ⟨a1, a2, a3, a4⟩ := s5 k o rfl e
    refine ⟨a1, a2, a3, a4, ?_⟩
    by_cases z : o = x
    · simp [z]
    · obtain ⟨k2, _, e2⟩ := (s3 o z).mp ⟨k, rfl, e⟩
      simp [z, (h1.1 k2 o e2).2.2.2.2], fun k k' o e e' => s4 k k' o rfl rfl e e'⟩
  have h2' : Clo K su B A hd' := fun k hk => by
    obtain ⟨a1, o, a2, a3⟩ := h2 k hk
    exact ⟨a1, o, by rw [(s6 A h2).1 k hk]; exact a2, a3⟩
  have h3' : Shd n (fun o => if o = x then true else Sx o) hd' := fun o ho => by
    by_cases z : o = x
    · simp only [z, if_true, true_iff]; exact ⟨ks, s2'⟩
    · simp only [z, if_false]
      rw [h3 o ho]
      constructor
      · intro ⟨k, e⟩
        obtain ⟨k2, _, e2⟩ := (s3 o z).mpr ⟨k, rfl, e⟩
        exact ⟨k2, e2⟩
      · intro ⟨k, e⟩
        obtain ⟨k2, _, e2⟩ := (s3 o z).mp ⟨k, rfl, e⟩
        exact ⟨k2, e2⟩
  have h4' : Rej n K su B (fun o => if o = x then true else P o) (fun o => if o = x then true else Sx o) A := fun o ho hp hs k' b1 b2 b3 => by
    by_cases z : o = x
    · simp [z] at hs
    · simp only [z, if_false] at hp hs
      exact h4 o ho hp hs k' b1 b2 b3
  refine ⟨card_step (x := x) c (fun o ho => ?_) (fun o ho hp => h6 o x ho hx hp hM) (fun o _ z => by by_cases q : o = x <;> simp [q, z]) h1' h2' h3' h4', h1', h3', h2', h4', fun o ho hp => ?_, fun o y ho hy hp hm' => ?_⟩
  · by_cases z : o = x <;> simp [z]
  · by_cases z : o = x
    · simp [z]
    · simp only [z, if_false] at hp ⊢; exact h5 o ho hp
  · by_cases zy : y = x
    · simp [zy] at hm'
    · simp only [zy, if_false] at hm'
      by_cases z : o = x
      · rw [z]; exact hm y hy hm'
      · simp only [z, if_false] at hp; exact h6 o y ho hy hp hm'
