/-! orders: making room for an order, as a search -/
section DFS
variable {n K : Nat} {su : Nat → Nat → Bool} {B P : Nat → Bool} {hd : Nat → Option Nat}
def Suc (n K : Nat) (su : Nat → Nat → Bool) (B : Nat → Bool) (hd : Nat → Option Nat) (T : Nat → Bool) (o : Nat) (hd' : Nat → Option Nat) : Prop :=
  (∀ k, T k = true → hd' k = hd k) ∧ (∃ k, T k = false ∧ hd' k = some o) ∧
  (∀ c, c ≠ o → ((∃ k, T k = false ∧ hd' k = some c) ↔ ∃ k, T k = false ∧ hd k = some c)) ∧
  (∀ k k' c, T k = false → T k' = false → hd' k = some c → hd' k' = some c → k = k') ∧
  (∀ k c, T k = false → hd' k = some c → k < K ∧ c < n ∧ B k = true ∧ su c k = true) ∧
  (∀ A, Clo K su B A hd → (∀ k, A k = true → hd' k = hd k) ∧ ¬ (∀ k, k < K → B k = true → su o k = true → A k = true))
def Fai (K : Nat) (su : Nat → Nat → Bool) (B : Nat → Bool) (hd : Nat → Option Nat) (T : Nat → Bool) (o : Nat) (T' : Nat → Bool) : Prop :=
  (∀ k, T k = true → T' k = true) ∧ (∀ k, k < K → B k = true → su o k = true → T' k = true) ∧ ∀ k, T' k = true → T k = false → k < K ∧ ∃ c, hd k = some c ∧ ∀ k', k' < K → B k' = true → su c k' = true → T' k' = true
theorem suc_free {T : Nat → Bool} {k o : Nat} (h1 : Hd n K su B P hd) (ho : o < n) (hc : ∀ k, hd k = some o → T k = true) (hk : k < K) (hB : B k = true) (hs : su o k = true) (hT : T k = false) (hf : hd k = none) : Suc n K su B hd T o (fun j => if j = k then some o else hd j) := by
  have ne : ∀ j, T j = true → j ≠ k := fun j hj q => by rw [q, hT] at hj; cases hj
  refine ⟨fun j hj => if_neg (ne j hj), ⟨k, hT, if_pos rfl⟩, fun c hco => ⟨fun ⟨j, a, b⟩ => ⟨j, a, ?_⟩, fun ⟨j, a, b⟩ => ⟨j, a, ?_⟩⟩, fun j j' c a a' b b' => ?_, fun j c a b => ?_, fun A hA => ⟨fun j hj => if_neg (fun q => ?_), fun q => ?_⟩⟩
  · by_cases z : j = k
    · simp only [z, if_true] at b; exact absurd (Option.some.inj b).symm hco
    · simp only [z, if_false] at b; exact b
  · show (if j = k then some o else hd j) = some c
    rw [if_neg (fun q => by rw [q, hf] at b; cases b)]; exact b
  · by_cases z : j = k
    · by_cases z' : j' = k
      · rw [z, z']
      · simp only [z, if_true] at b
        simp only [z', if_false] at b'
        rw [← Option.some.inj b] at b'
        rw [hc j' b'] at a'; cases a'
    · simp only [z, if_false] at b
      by_cases z' : j' = k
      · simp only [z', if_true] at b'
        rw [← Option.some.inj b'] at b
        rw [hc j b] at a; cases a
      · simp only [z', if_false] at b'
        exact h1.2 j j' c b b'
  · by_cases z : j = k
    · simp only [z, if_true] at b
      rw [← Option.some.inj b, z]; exact ⟨hk, ho, hB, hs⟩
    · simp only [z, if_false] at b
      obtain ⟨q1, q2, q3, q4, q5⟩ := h1.1 j c b
      exact ⟨q1, q2, q3, q4⟩
  · obtain ⟨_, c, e, _⟩ := hA j hj
    rw [q, hf] at e; cases e
  · obtain ⟨_, c, e, _⟩ := hA k (q k hk hB hs)
    rw [hf] at e; cases e
theorem suc_step {T T1 : Nat → Bool} {k o o' : Nat} {hd1 : Nat → Option Nat} (h1 : Hd n K su B P hd) (ho : o < n) (hc : ∀ k, hd k = some o → T k = true) (hk : k < K) (hB : B k = true) (hs : su o k = true) (hT : T k = false) (hf : hd k = some o') (hT1 : ∀ j, T j = true → T1 j = true) (hkT : T1 k = true) (hS : Suc n K su B hd T1 o' hd1) : Suc n K su B hd T o (fun j => if j = k then some o else hd1 j) := by
  obtain ⟨s1, ⟨ks, s2, s2'⟩, s3, s4, s5, s6⟩ := hS
  have oo : o ≠ o' := fun q => by rw [← q] at hf; rw [hc k hf] at hT; cases hT
  have ne : ∀ j, T j = true → j ≠ k := fun j hj q => by rw [q, hT] at hj; cases hj
  have f1 : ∀ {j}, T1 j = false → T j = false := fun {j} h => by
    cases q : T j
    · rfl
    · rw [hT1 j q] at h; cases h
  have ks_ne : ks ≠ k := fun q => by rw [q, hkT] at s2; cases s2
  -- who holds in hd1 an order other than o' holds it in hd too, and the other way round, outside of T
  have no : ∀ j, T j = false → hd1 j ≠ some o := fun j hj e => by
    cases q : T1 j
    · obtain ⟨j2, a, b⟩ := (s3 o oo).mp ⟨j, q, e⟩
      have := hc j2 b
      rw [f1 a] at this; cases this
    · rw [s1 j q] at e
      rw [hc j e] at hj; cases hj
  refine ⟨fun j hj => ?_, ⟨k, hT, if_pos rfl⟩, fun c hco => ⟨fun ⟨j, a, b⟩ => ?_, fun ⟨j, a, b⟩ => ?_⟩, fun j j' c a a' b b' => ?_, fun j c a b => ?_, fun A hA => ?_⟩
  · show (if j = k then some o else hd1 j) = hd j
    rw [if_neg (ne j hj)]; exact s1 j (hT1 j hj)
  · by_cases z : j = k
    · simp only [z, if_true] at b; exact absurd (Option.some.inj b).symm hco
    · simp only [z, if_false] at b
      by_cases zc : c = o'
      · exact ⟨k, hT, by rw [zc]; exact hf⟩
      · cases q : T1 j
        · obtain ⟨j2, a2, b2⟩ := (s3 c zc).mp ⟨j, q, b⟩
          exact ⟨j2, f1 a2, b2⟩
        · exact ⟨j, a, by rw [← s1 j q]; exact b⟩
  · by_cases zc : c = o'
    · refine ⟨ks, f1 s2, ?_⟩
      show (if ks = k then some o else hd1 ks) = some c
      rw [if_neg ks_ne, zc]; exact s2'
    · have jk : j ≠ k := fun q => by rw [q, hf] at b; exact zc (Option.some.inj b).symm
      cases q : T1 j
      · obtain ⟨j2, a2, b2⟩ := (s3 c zc).mpr ⟨j, q, b⟩
        refine ⟨j2, f1 a2, ?_⟩
        show (if j2 = k then some o else hd1 j2) = some c
        rw [if_neg (fun z => by rw [z, hkT] at a2; cases a2)]; exact b2
      · refine ⟨j, a, ?_⟩
        show (if j = k then some o else hd1 j) = some c
        rw [if_neg jk, s1 j q]; exact b
  · by_cases z : j = k
    · by_cases z' : j' = k
      · rw [z, z']
      · simp only [z, if_true] at b
        simp only [z', if_false] at b'
        rw [← Option.some.inj b] at b'
        exact absurd b' (no j' a')
    · simp only [z, if_false] at b
      by_cases z' : j' = k
      · simp only [z', if_true] at b'
        rw [← Option.some.inj b'] at b
        exact absurd b (no j a)
      · simp only [z', if_false] at b'
        -- neither is k
        have mix : ∀ x y, x ≠ k → T1 x = true → T1 y = false → hd1 x = some c → hd1 y = some c → False := fun x y xk tx ty ex ey => by
          rw [s1 x tx] at ex
          by_cases zc : c = o'
          · rw [zc] at ex; exact xk (h1.2 x k o' ex hf)
          · obtain ⟨j2, a2, b2⟩ := (s3 c zc).mp ⟨y, ty, ey⟩
            have := h1.2 x j2 c ex b2
            rw [this, a2] at tx; cases tx
        cases q : T1 j
        · cases q' : T1 j'
          · exact s4 j j' c q q' b b'
          · exact (mix j' j z' q' q b' b).elim
        · cases q' : T1 j'
          · exact (mix j j' z q q' b b').elim
          · rw [s1 j q] at b
            rw [s1 j' q'] at b'
            exact h1.2 j j' c b b'
  · by_cases z : j = k
    · simp only [z, if_true] at b
      rw [← Option.some.inj b, z]; exact ⟨hk, ho, hB, hs⟩
    · simp only [z, if_false] at b
      cases q : T1 j
      · exact s5 j c q b
      · rw [s1 j q] at b
        obtain ⟨q1, q2, q3, q4, q5⟩ := h1.1 j c b
        exact ⟨q1, q2, q3, q4⟩
  · obtain ⟨a1, a2⟩ := s6 A hA
    have kA : A k ≠ true := fun q => by
      obtain ⟨_, c, e, g⟩ := hA k q
      rw [hf] at e
      rw [← Option.some.inj e] at g
      exact a2 g
    refine ⟨fun j hj => ?_, fun q => kA (q k hk hB hs)⟩
    show (if j = k then some o else hd1 j) = hd j
    rw [if_neg (fun z => kA (by rw [← z]; exact hj))]; exact a1 j hj
end DFS
