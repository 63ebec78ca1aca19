/-! reading laws: second -/
section SECOND
variable {y : Nat → Nat} {n c k1 many : Nat} {st : Nat → Option (Nat × Nat)} {ba : Nat → Nat} {le sc : Nat → Option Nat} {lim : Option Nat}
theorem nth_stay {sc : Nat → Option Nat} {b k : Nat} (h : nth_ sc k b = none) : ∀ j, nth_ sc (k + j) b = none
  | 0 => h
  | j + 1 => nth_pre (k + j) (nth_stay h j)
theorem nth_end {sc : Nat → Option Nat} {a b k : Nat} (h : nth_ sc k b = none) (hj : ∀ j, j < k → nth_ sc j b ≠ some a) : ∀ j, nth_ sc j b ≠ some a := fun j e => by
  rcases Nat.lt_or_ge j k with q | q
  · exact hj j q e
  · have := nth_stay h (j - k)
    rw [show k + (j - k) = j by omega, e] at this
    cases this
theorem leads_x {S : St} {a b : Nat} (ha : Acy sc) (h : ∀ i, i < 8 → aI_ S (k1 + 5) i = sv (sc i)) (hb : b < 8) (h8 : a < 8) : ∃ r, fX3_leadsTo k1 S (nI b) (nI a) = some r ∧ ((r = 1 ∧ ∃ k, nth_ sc k b = some a) ∨ (r = 0 ∧ ∀ k, nth_ sc k b ≠ some a)) := by
  obtain ⟨u, eu, hu⟩ := lp_inv (body := fun w21 : Int32 × Int32 => bX3_leadsTo_5 k1 S (nI a) w21.1 w21.2) (fun k s => s.1 = sv (nth_ sc k b) ∧ s.2 = nI k ∧ ∀ j, j < k → nth_ sc j b ≠ some a) (fun r => (r = .inr 1 ∧ ∃ k, nth_ sc k b = some a) ∨ (r = .inl () ∧ ∀ k, nth_ sc k b ≠ some a)) 8 (m := 5000) (s := (nI b, 0)) (by omega) ⟨rfl, rfl, fun j h => by omega⟩
    (by
      rintro k ⟨s1, s2⟩ hk ⟨k1', k2, k3⟩
      obtain rfl : s1 = _ := k1'
      obtain rfl : s2 = _ := k2
      have g8 : ¬ (8 : Int32) ≤ nI k := nI_ge hk (by decide)
      have ek : nI k + 1 = nI (k + 1) := nI_add _ 1
      show (∃ s', bX3_leadsTo_5 k1 S (nI a) (sv (nth_ sc k b)) (nI k) = _ ∧ _) ∨ (∃ r, bX3_leadsTo_5 k1 S (nI a) (sv (nth_ sc k b)) (nI k) = _ ∧ _)
      unfold bX3_leadsTo_5
      rw [if_neg g8]
      cases q : nth_ sc k b with
      | none =>
        have s4 : sv none = -4 := rfl
        rw [if_pos s4]
        exact Or.inr ⟨_, rfl, Or.inr ⟨rfl, nth_end q k3⟩⟩
      | some x =>
        have x8 := nth_lt ha hb k x q
        have s4 : ¬ sv (some x) = -4 := fun z => (m4_ne (a := x) (by omega)).mp z
        rw [if_neg s4]
        by_cases e : x = a
        · have e' : sv (some x) = nI a := by rw [e]; rfl
          rw [if_pos e']
          exact Or.inr ⟨_, rfl, Or.inl ⟨rfl, k, by rw [q, e]⟩⟩
        · have e' : ¬ sv (some x) = nI a := fun z => e ((nI_eq (by omega) (by omega)).mp z)
          have rd : rI_ S (k1 + 5) 8 (sv (some x)) = some (sv (sc x)) := by
            show rI_ S (k1 + 5) 8 (nI x) = _
            rw [rI_n x8 (by omega), h x x8]
          rw [if_neg e', rd, b1_s, ek]
          refine Or.inl ⟨_, rfl, ?_, rfl, fun j hj => ?_⟩
          · show sv (sc x) = sv (nth_ sc (k + 1) b)
            simp [nth_, q]
          · by_cases z : j = k
            · rw [z, q]; exact fun w => e (Option.some.inj w)
            · exact k3 j (by omega))
    (by
      rintro ⟨s1, s2⟩ ⟨k1', k2, k3⟩
      obtain rfl : s1 = _ := k1'
      obtain rfl : s2 = _ := k2
      refine ⟨.inl (), ?_, Or.inr ⟨rfl, nth_end (nth_8 ha hb) k3⟩⟩
      show bX3_leadsTo_5 k1 S (nI a) _ (nI 8) = _
      unfold bX3_leadsTo_5
      rw [if_pos (by decide : (8 : Int32) ≤ nI 8)])
  unfold fX3_leadsTo
  rw [eu]
  rcases hu with ⟨rfl, h⟩ | ⟨rfl, h⟩
  · exact ⟨1, rfl, Or.inl ⟨rfl, h⟩⟩
  · exact ⟨0, rfl, Or.inr ⟨rfl, h⟩⟩
theorem leads_m {q21 w24 : Int32 × St} {a b : Nat} (ha : Acy sc) (h : ∀ i, i < 8 → aI_ w24.2 38 i = sv (sc i)) (hb : b < 8) (h8 : a < 8) (hq : q21.1 = nI a) : ∃ r, lp (fun w25 : Int32 => bX12_readSecond_63 q21 w24 w25) 5000 (nI b) = some r ∧ ((r = nI a ∧ ∃ k, nth_ sc k b = some a) ∨ (r = -4 ∧ ∀ k, nth_ sc k b ≠ some a)) := by
  refine lp_inv (body := fun w25 : Int32 => bX12_readSecond_63 q21 w24 w25) (fun k s => s = sv (nth_ sc k b) ∧ ∀ j, j < k → nth_ sc j b ≠ some a) (fun r => (r = nI a ∧ ∃ k, nth_ sc k b = some a) ∨ (r = -4 ∧ ∀ k, nth_ sc k b ≠ some a)) 8 (by omega) ⟨rfl, fun j h => by omega⟩ ?_ ?_
  · rintro k s hk ⟨rfl, k3⟩
    show (∃ s', bX12_readSecond_63 q21 w24 (sv (nth_ sc k b)) = _ ∧ _) ∨ (∃ r, bX12_readSecond_63 q21 w24 (sv (nth_ sc k b)) = _ ∧ _)
    unfold bX12_readSecond_63
    rw [hq]
    cases q : nth_ sc k b with
    | none =>
      have s4 : sv none = -4 := rfl
      rw [if_pos s4]
      exact Or.inr ⟨_, rfl, Or.inr ⟨rfl, nth_end q k3⟩⟩
    | some x =>
      have x8 := nth_lt ha hb k x q
      have s4 : ¬ sv (some x) = -4 := fun z => (m4_ne (a := x) (by omega)).mp z
      rw [if_neg s4]
      by_cases e : x = a
      · have e' : sv (some x) = nI a := by rw [e]; rfl
        rw [if_pos e']
        exact Or.inr ⟨_, rfl, Or.inl ⟨e', k, by rw [q, e]⟩⟩
      · have e' : ¬ sv (some x) = nI a := fun z => e ((nI_eq (by omega) (by omega)).mp z)
        have rd : rI_ w24.2 38 8 (sv (some x)) = some (sv (sc x)) := by
          show rI_ w24.2 38 8 (nI x) = _
          rw [rI_n x8 (by omega), h x x8]
        rw [if_neg e', rd, b1_s]
        refine Or.inl ⟨_, rfl, ?_, fun j hj => ?_⟩
        · show sv (sc x) = sv (nth_ sc (k + 1) b)
          simp [nth_, q]
        · by_cases z : j = k
          · rw [z, q]; exact fun w => e (Option.some.inj w)
          · exact k3 j (by omega)
  · rintro s ⟨rfl, k3⟩
    refine ⟨-4, ?_, Or.inr ⟨rfl, nth_end (nth_8 ha hb) k3⟩⟩
    show bX12_readSecond_63 q21 w24 (sv (nth_ sc 8 b)) = _
    unfold bX12_readSecond_63
    have s4 : sv none = -4 := rfl
    rw [nth_8 ha hb, if_pos s4]; rfl
theorem nth_shift {sc : Nat → Option Nat} {i j : Nat} (h : sc i = some j) : ∀ k, nth_ sc (k + 1) i = nth_ sc k j
  | 0 => by simp [nth_, h]
  | k + 1 => by
    have := nth_shift h k
    show _ = nth_ sc (k + 1) j
    simp only [nth_] at this ⊢
    rw [this]
theorem Acy.add {a b : Nat} (h : Acy sc) (hb : b < 8) (hn : ∀ k, nth_ sc k b ≠ some a) : Acy (fun i => if i = a then some b else sc i) := by
  classical
  obtain ⟨rk, hr⟩ := h
  refine ⟨fun i => if ∃ k, nth_ sc k i = some a then rk i + rk b + 1 else rk i, fun i j hi e => ?_⟩
  have nb : ¬ ∃ k, nth_ sc k b = some a := fun ⟨k, z⟩ => hn k z
  by_cases q : i = a
  · have e' : b = j := by simpa [q] using e
    subst e'
    refine ⟨hb, ?_⟩
    have ya : ∃ k, nth_ sc k i = some a := ⟨0, by rw [q]; rfl⟩
    simp only [if_neg nb, if_pos ya]
    omega
  · have e' : sc i = some j := by simpa [q] using e
    obtain ⟨j8, rj⟩ := hr i j hi e'
    refine ⟨j8, ?_⟩
    have iff1 : (∃ k, nth_ sc k i = some a) ↔ ∃ k, nth_ sc k j = some a := by
      constructor
      · intro ⟨k, z⟩
        cases k with
        | zero => exact absurd (Option.some.inj z) q
        | succ k => exact ⟨k, by rw [← nth_shift e']; exact z⟩
      · intro ⟨k, z⟩; exact ⟨k + 1, by rw [nth_shift e']; exact z⟩
    by_cases z : ∃ k, nth_ sc k j = some a
    · simp only [if_pos z, if_pos (iff1.mpr z)]; omega
    · simp only [if_neg z, if_neg (fun w => z (iff1.mp w))]; exact rj
end SECOND
