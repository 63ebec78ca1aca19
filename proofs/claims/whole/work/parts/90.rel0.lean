/-! the two fresh objects are alike -/
theorem lt8 {P : Nat → Prop} (h0 : P 0) (h1 : P 1) (h2 : P 2) (h3 : P 3) (h4 : P 4) (h5 : P 5) (h6 : P 6) (h7 : P 7) : ∀ i, i < 8 → P i := fun i hi => by
  match i, hi with
  | 0, _ => exact h0
  | 1, _ => exact h1
  | 2, _ => exact h2
  | 3, _ => exact h3
  | 4, _ => exact h4
  | 5, _ => exact h5
  | 6, _ => exact h6
  | 7, _ => exact h7
theorem rel0_ : Rel_ X0_ M0_ := by
  refine ⟨⟨4, 4, fun _ => false, fun _ => 0, ⟨⟨by omega, by omega, by omega, by omega⟩, fun _ _ => Nat.zero_le _, ⟨rfl, rfl, fun q _ => l_0 q, fun _ _ => rfl⟩, rfl, rfl, fun _ _ => ⟨rfl, rfl⟩⟩, ⟨0, 0, fun _ _ => false, fun _ _ => 0, ⟨by omega, by omega⟩, rfl, rfl, rfl, fun j h => by omega⟩, ⟨0, fun _ _ => false, by omega, rfl, rfl, fun i q h => by omega⟩⟩,
    ⟨0, fun _ => 0, fun _ => 0, fun _ => 0, fun _ => 0, fun _ => false, ⟨⟨by omega, fun s h => by omega⟩, ⟨rfl, fun s h => by omega⟩, ⟨rfl, fun s h => by omega⟩⟩, ⟨0, fun _ => 0, fun _ => 0, fun _ => 0, fun _ => 0, ⟨by omega, fun s h => by omega⟩, ⟨rfl, fun s h => by omega⟩, ⟨rfl, fun s h => by omega⟩⟩, ⟨0, fun _ => 0, fun _ => 0, fun _ => 0, ⟨by omega, fun s h => by omega⟩, ⟨rfl, fun s h => by omega⟩, ⟨rfl, fun s h => by omega⟩⟩⟩,
    ⟨0, fun _ => 0, fun _ => 0, fun _ => 0, fun _ => 0, fun _ => false, fun _ => 0, ⟨by omega, fun s h => by omega⟩, ⟨rfl, fun s h => by omega⟩, ⟨rfl, fun s h => by omega⟩⟩,
    ⟨0, fun _ => 0, ⟨by omega, fun s h => by omega⟩, ⟨rfl, fun s h => by omega⟩, ⟨rfl, fun s h => by omega⟩⟩,
    ⟨62, 68, 5, 0, fun _ => 1800, fun _ => 2000, fun _ => 0, fun _ => 0, fun _ => none, ⟨rfl, rfl, Or.inl ⟨rfl, rfl⟩⟩, ⟨by omega, by omega, ⟨fun _ => 0, fun i j _ h => by cases h⟩, fun i _ => ⟨⟨show 1800 ≤ 1800 by omega, show 1800 ≤ 2000 by omega⟩, ⟨show 1800 ≤ 2000 by omega, show 2000 ≤ 2000 by omega⟩, show 0 < 256 by omega, show 0 ≤ 5 by omega⟩⟩, ⟨rfl, rfl, ?_⟩, ⟨rfl, rfl, ?_⟩⟩,
    fun k hk => ⟨0, none, fun _ => 0, ⟨by omega, fun l h => by cases h⟩, ?_, ?_, ?_, ?_, ?_, ?_⟩, rfl⟩
  · exact lt8 ⟨rfl, rfl, rfl, rfl, rfl⟩ ⟨rfl, rfl, rfl, rfl, rfl⟩ ⟨rfl, rfl, rfl, rfl, rfl⟩ ⟨rfl, rfl, rfl, rfl, rfl⟩ ⟨rfl, rfl, rfl, rfl, rfl⟩ ⟨rfl, rfl, rfl, rfl, rfl⟩ ⟨rfl, rfl, rfl, rfl, rfl⟩ ⟨rfl, rfl, rfl, rfl, rfl⟩
  · exact lt8 ⟨rfl, rfl, rfl, rfl, rfl⟩ ⟨rfl, rfl, rfl, rfl, rfl⟩ ⟨rfl, rfl, rfl, rfl, rfl⟩ ⟨rfl, rfl, rfl, rfl, rfl⟩ ⟨rfl, rfl, rfl, rfl, rfl⟩ ⟨rfl, rfl, rfl, rfl, rfl⟩ ⟨rfl, rfl, rfl, rfl, rfl⟩ ⟨rfl, rfl, rfl, rfl, rfl⟩
  all_goals (match k, hk with
    | 0, _ => first | rfl | exact fun _ _ => rfl
    | 1, _ => first | rfl | exact fun _ _ => rfl
    | 2, _ => first | rfl | exact fun _ _ => rfl
    | 3, _ => first | rfl | exact fun _ _ => rfl)
