/-! MOST as a function; a count by an injection -/
def mx1 (f : Nat → Nat) : Nat → Nat
  | 0 => 0
  | n + 1 => if n = 0 then 0 else max (mx1 f n) (f n)
theorem mx1_s (f : Nat → Nat) {n : Nat} (h : 1 ≤ n) : mx1 f (n + 1) = max (mx1 f n) (f n) := by
  rw [mx1, if_neg (by omega)]
theorem mx1_1 (f : Nat → Nat) : mx1 f 1 = 0 := by rw [mx1, if_pos rfl]
theorem mx1_cong {f g : Nat → Nat} : ∀ {n : Nat}, (∀ k, 1 ≤ k → k < n → f k = g k) → mx1 f n = mx1 g n := by
  intro n
  induction n with
  | zero => intro _; rfl
  | succ n ih =>
    intro h
    rw [mx1, mx1]
    split
    · rfl
    · rw [ih (fun k h1 h2 => h k h1 (by omega)), h n (by omega) (by omega)]
theorem mx1_le {f : Nat → Nat} {c : Nat} : ∀ {n : Nat}, (∀ k, 1 ≤ k → k < n → f k ≤ c) → mx1 f n ≤ c := by
  intro n
  induction n with
  | zero => intro _; exact Nat.zero_le _
  | succ n ih =>
    intro h
    rw [mx1]
    split
    · exact Nat.zero_le _
    · exact Nat.max_le.mpr ⟨ih (fun k h1 h2 => h k h1 (by omega)), h n (by omega) (by omega)⟩
theorem mx1_ge {f : Nat → Nat} {k : Nat} (h1 : 1 ≤ k) : ∀ {n : Nat}, k < n → f k ≤ mx1 f n := by
  intro n
  induction n with
  | zero => intro h; omega
  | succ n ih =>
    intro h
    rw [mx1, if_neg (by omega)]
    by_cases e : k = n
    · subst e; exact Nat.le_max_right _ _
    · exact Nat.le_trans (ih (by omega)) (Nat.le_max_left _ _)
theorem mx1_at {f : Nat → Nat} : ∀ {n : Nat}, 0 < mx1 f n → ∃ k, 1 ≤ k ∧ k < n ∧ f k = mx1 f n := by
  intro n
  induction n with
  | zero => intro h; exact absurd h (Nat.lt_irrefl 0)
  | succ n ih =>
    intro h
    rw [mx1] at h ⊢
    split at h
    · exact absurd h (Nat.lt_irrefl 0)
    · rename_i hn
      rw [if_neg hn]
      rcases Nat.le_total (mx1 f n) (f n) with q | q
      · exact ⟨n, by omega, by omega, (Nat.max_eq_right q).symm⟩
      · rw [Nat.max_eq_left q] at h ⊢
        obtain ⟨k, h1, h2, h3⟩ := ih h
        exact ⟨k, h1, by omega, h3⟩
/-- the greatest f k, k < n -/
def mx0 (f : Nat → Nat) : Nat → Nat
  | 0 => 0
  | n + 1 => max (mx0 f n) (f n)
theorem mx0_cong {f g : Nat → Nat} : ∀ {n : Nat}, (∀ k, k < n → f k = g k) → mx0 f n = mx0 g n := by
  intro n
  induction n with
  | zero => intro _; rfl
  | succ n ih =>
    intro h
    rw [mx0, mx0, ih (fun k h2 => h k (by omega)), h n (by omega)]
theorem mx0_le {f : Nat → Nat} {c : Nat} : ∀ {n : Nat}, (∀ k, k < n → f k ≤ c) → mx0 f n ≤ c := by
  intro n
  induction n with
  | zero => intro _; exact Nat.zero_le _
  | succ n ih =>
    intro h
    rw [mx0]
    exact Nat.max_le.mpr ⟨ih (fun k h2 => h k (by omega)), h n (by omega)⟩
theorem mx0_ge {f : Nat → Nat} {k : Nat} : ∀ {n : Nat}, k < n → f k ≤ mx0 f n := by
  intro n
  induction n with
  | zero => intro h; omega
  | succ n ih =>
    intro h
    rw [mx0]
    by_cases e : k = n
    · subst e; exact Nat.le_max_right _ _
    · exact Nat.le_trans (ih (by omega)) (Nat.le_max_left _ _)
theorem mx0_at {f : Nat → Nat} : ∀ {n : Nat}, 0 < mx0 f n → ∃ k, k < n ∧ f k = mx0 f n := by
  intro n
  induction n with
  | zero => intro h; exact absurd h (Nat.lt_irrefl 0)
  | succ n ih =>
    intro h
    rw [mx0] at h ⊢
    rcases Nat.le_total (mx0 f n) (f n) with q | q
    · exact ⟨n, by omega, (Nat.max_eq_right q).symm⟩
    · rw [Nat.max_eq_left q] at h ⊢
      obtain ⟨k, h2, h3⟩ := ih h
      exact ⟨k, by omega, h3⟩
def bf (pv : Nat → Nat → Nat → Nat → Nat) : Nat → Nat → Nat → Nat → Nat → Nat
  | 0, _, _, _, _ => 0
  | n + 1, x, y, w, h => max (pv x y w h) (max (mx1 (fun k => bf pv n x y k h + bf pv n (x + k) y (w - k) h) w) (mx1 (fun k => bf pv n x y w k + bf pv n x (y + k) w (h - k)) h))
theorem bf_fuel (pv : Nat → Nat → Nat → Nat → Nat) : ∀ (n m x y w h : Nat), 1 ≤ w → 1 ≤ h → w + h ≤ n → w + h ≤ m → bf pv n x y w h = bf pv m x y w h := by
  intro n
  induction n with
  | zero => intro m x y w h h1 h2 h3; omega
  | succ n ih =>
    intro m x y w h h1 h2 h3 h4
    obtain ⟨m, rfl⟩ : ∃ j, m = j + 1 := ⟨m - 1, by omega⟩
    rw [bf, bf]
    rw [mx1_cong (g := fun k => bf pv m x y k h + bf pv m (x + k) y (w - k) h) (fun k a b => by rw [ih m x y k h a h2 (by omega) (by omega), ih m (x + k) y (w - k) h (by omega) h2 (by omega) (by omega)])]
    rw [mx1_cong (f := fun k => bf pv n x y w k + bf pv n x (y + k) w (h - k)) (g := fun k => bf pv m x y w k + bf pv m x (y + k) w (h - k)) (fun k a b => by rw [ih m x y w k h1 a (by omega) (by omega), ih m x (y + k) w (h - k) h1 (by omega) (by omega) (by omega)])]
/-- MOST, where a pipe of the block x y w h brings pv x y w h -/
def bst (pv : Nat → Nat → Nat → Nat → Nat) (x y w h : Nat) : Nat := bf pv (w + h) x y w h
theorem bst_eq (pv : Nat → Nat → Nat → Nat → Nat) {x y w h : Nat} (h1 : 1 ≤ w) (h2 : 1 ≤ h) : bst pv x y w h = max (pv x y w h) (max (mx1 (fun k => bst pv x y k h + bst pv (x + k) y (w - k) h) w) (mx1 (fun k => bst pv x y w k + bst pv x (y + k) w (h - k)) h)) := by
  unfold bst
  obtain ⟨n, hn⟩ : ∃ n, w + h = n + 1 := ⟨w + h - 1, by omega⟩
  rw [hn, bf]
  rw [mx1_cong (g := fun k => bf pv (k + h) x y k h + bf pv (w - k + h) (x + k) y (w - k) h) (fun k a b => by rw [bf_fuel pv n (k + h) x y k h a h2 (by omega) (by omega), bf_fuel pv n (w - k + h) (x + k) y (w - k) h (by omega) h2 (by omega) (by omega)])]
  rw [mx1_cong (f := fun k => bf pv n x y w k + bf pv n x (y + k) w (h - k)) (g := fun k => bf pv (w + k) x y w k + bf pv (w + (h - k)) x (y + k) w (h - k)) (fun k a b => by rw [bf_fuel pv n (w + k) x y w k h1 a (by omega) (by omega), bf_fuel pv n (w + (h - k)) x (y + k) w (h - k) h1 (by omega) (by omega) (by omega)])]
theorem bst_le {pv : Nat → Nat → Nat → Nat → Nat} {c : Nat} (hp : ∀ x y w h, 1 ≤ w → 1 ≤ h → pv x y w h ≤ c * (w * h)) : ∀ (n x y w h : Nat), w + h ≤ n → 1 ≤ w → 1 ≤ h → bst pv x y w h ≤ c * (w * h) := by
  intro n
  induction n with
  | zero => intro x y w h h0 h1 h2; omega
  | succ n ih =>
    intro x y w h h0 h1 h2
    rw [bst_eq pv h1 h2]
    refine Nat.max_le.mpr ⟨hp x y w h h1 h2, Nat.max_le.mpr ⟨mx1_le (fun k a b => ?_), mx1_le (fun k a b => ?_)⟩⟩
    · have e1 := ih x y k h (by omega) a h2
      have e2 := ih (x + k) y (w - k) h (by omega) (by omega) h2
      have e3 : c * (w * h) = c * (k * h) + c * ((w - k) * h) := by
        rw [← Nat.mul_add, ← Nat.add_mul]
        congr 2
        omega
      show bst pv x y k h + bst pv (x + k) y (w - k) h ≤ _
      omega
    · have e1 := ih x y w k (by omega) h1 a
      have e2 := ih x (y + k) w (h - k) (by omega) h1 (by omega)
      have e3 : c * (w * h) = c * (w * k) + c * (w * (h - k)) := by
        rw [← Nat.mul_add, ← Nat.mul_add]
        congr 2
        omega
      show bst pv x y w k + bst pv x (y + k) w (h - k) ≤ _
      omega
theorem bst_cong {pv qv : Nat → Nat → Nat → Nat → Nat} (X Y : Nat) (hp : ∀ x y w h, 1 ≤ w → 1 ≤ h → x + w ≤ X → y + h ≤ Y → pv x y w h = qv x y w h) : ∀ (n x y w h : Nat), w + h ≤ n → 1 ≤ w → 1 ≤ h → x + w ≤ X → y + h ≤ Y → bst pv x y w h = bst qv x y w h := by
  intro n
  induction n with
  | zero => intro x y w h h0 h1 h2; omega
  | succ n ih =>
    intro x y w h h0 h1 h2 h3 h4
    rw [bst_eq pv h1 h2, bst_eq qv h1 h2, hp x y w h h1 h2 h3 h4]
    rw [mx1_cong (g := fun k => bst qv x y k h + bst qv (x + k) y (w - k) h) (fun k a b => by rw [ih x y k h (by omega) a h2 (by omega) h4, ih (x + k) y (w - k) h (by omega) (by omega) h2 (by omega) h4])]
    rw [mx1_cong (f := fun k => bst pv x y w k + bst pv x (y + k) w (h - k)) (g := fun k => bst qv x y w k + bst qv x (y + k) w (h - k)) (fun k a b => by rw [ih x y w k (by omega) h1 a h3 (by omega), ih x (y + k) w (h - k) (by omega) h1 (by omega) h3 (by omega)])]
/-- a count is at most another, by an injection -/
theorem ct_inj : ∀ {n m : Nat} {p q : Nat → Bool} (g : Nat → Nat), (∀ i, i < n → p i = true → g i < m ∧ q (g i) = true) → (∀ i j, i < n → j < n → p i = true → p j = true → g i = g j → i = j) → fb_ct p n ≤ fb_ct q m := by
  intro n
  induction n with
  | zero => intro m p q g _ _; exact Nat.zero_le _
  | succ n ih =>
    intro m p q g h1 h2
    rw [fb_ct_succ]
    cases hp : p n with
    | false =>
      simp only [Bool.false_eq_true, if_false, Nat.add_zero]
      exact ih g (fun i hi => h1 i (by omega)) (fun i j hi hj => h2 i j (by omega) (by omega))
    | true =>
      obtain ⟨ha, hb⟩ := h1 n (by omega) hp
      have e := fb_ct_upd q false ha
      rw [hb] at e
      simp only [if_true, Bool.false_eq_true, if_false] at e ⊢
      have := ih (q := fun k => if k = g n then false else q k) (m := m) (p := p) g (fun i hi hpi => by
        refine ⟨(h1 i (by omega) hpi).1, ?_⟩
        show (if g i = g n then false else q (g i)) = true
        rw [if_neg (fun q => by have := h2 i n (by omega) (by omega) hpi hp q; omega)]
        exact (h1 i (by omega) hpi).2) (fun i j hi hj => h2 i j (by omega) (by omega))
      omega
