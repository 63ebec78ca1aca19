/-! orders and blocks: the greatest sum of pays, by tables and by taking the best paid first -/
def Mt (n K : Nat) (su : Nat → Nat → Bool) (B W : Nat → Bool) (f : Nat → Nat) : Prop :=
  (∀ o, o < n → W o = true → f o < K ∧ B (f o) = true ∧ su o (f o) = true) ∧ (∀ o o', o < n → o' < n → W o = true → W o' = true → f o = f o' → o = o')
def wt (n : Nat) (py : Nat → Nat) (W : Nat → Bool) : Nat := fb_sm (fun o => if W o then py o else 0) n
def dpo (n K : Nat) (su : Nat → Nat → Bool) (py : Nat → Nat) : Nat → (Nat → Bool) → Nat
  | 0, _ => 0
  | r + 1, B => max (dpo n K su py r B) (mx0 (fun k => if B k && su (n - 1 - r) k then py (n - 1 - r) + dpo n K su py r (fun j => if j = k then false else B j) else 0) K)
theorem wt_zero {n : Nat} {py : Nat → Nat} {W : Nat → Bool} (h : ∀ o, o < n → W o = false) : wt n py W = 0 := by
  unfold wt
  rw [fb_sm_cong (g := fun _ => 0) (fun k hk => by simp [h k hk]), fb_sm_const]
  omega
theorem wt_del {n : Nat} {py : Nat → Nat} {W : Nat → Bool} {x : Nat} (hx : x < n) (hW : W x = true) : wt n py W = wt n py (fun o => if o = x then false else W o) + py x := by
  unfold wt
  have e := fb_sm_upd (fun o => if W o then py o else 0) 0 hx
  rw [fb_sm_cong (f := fun k => if k = x then 0 else if W k then py k else 0) (g := fun o => if (if o = x then false else W o) then py o else 0) (fun k hk => by by_cases q : k = x <;> simp [q])] at e
  simp only [hW, if_true] at e
  show fb_sm (fun o => if W o then py o else 0) n = fb_sm (fun o => if (if o = x then false else W o) then py o else 0) n + py x
  omega
theorem dpo_up (n K : Nat) (su : Nat → Nat → Bool) (py : Nat → Nat) : ∀ (r : Nat), r ≤ n → ∀ (B W : Nat → Bool) (f : Nat → Nat), Mt n K su B W f → (∀ o, o < n → W o = true → n ≤ o + r) → wt n py W ≤ dpo n K su py r B := by
  intro r
  induction r with
  | zero =>
    intro _ B W f _ h
    rw [wt_zero (fun o ho => by
      cases q : W o with
      | false => rfl
      | true => have := h o ho q; omega)]
    exact Nat.zero_le _
  | succ r ih =>
    intro hr B W f hM h
    rw [dpo]
    cases q : W (n - 1 - r) with
    | false =>
      refine Nat.le_trans (ih (by omega) B W f hM (fun o ho hW => ?_)) (Nat.le_max_left _ _)
      have := h o ho hW
      have : o ≠ n - 1 - r := fun e => by rw [e, q] at hW; cases hW
      omega
    | true =>
      obtain ⟨a1, a2, a3⟩ := hM.1 (n - 1 - r) (by omega) q
      rw [wt_del (by omega) q]
      have e := ih (by omega) (fun j => if j = f (n - 1 - r) then false else B j) (fun o => if o = n - 1 - r then false else W o) f ⟨fun o ho hW => by
          by_cases e : o = n - 1 - r
          · simp [e] at hW
          · simp only [e, if_false] at hW
            obtain ⟨b1, b2, b3⟩ := hM.1 o ho hW
            refine ⟨b1, ?_, b3⟩
            have : f o ≠ f (n - 1 - r) := fun q2 => e (hM.2 o (n - 1 - r) ho (by omega) hW q q2)
            simp [this, b2], fun o o' ho ho' hW hW' he => by
          by_cases e : o = n - 1 - r
          · simp [e] at hW
          · by_cases e' : o' = n - 1 - r
            · simp [e'] at hW'
            · simp only [e, e', if_false] at hW hW'
              exact hM.2 o o' ho ho' hW hW' he⟩ (fun o ho hW => by
          by_cases e : o = n - 1 - r
          · simp [e] at hW
          · simp only [e, if_false] at hW
            have := h o ho hW
            omega)
      refine Nat.le_trans ?_ (Nat.le_max_right _ _)
      refine Nat.le_trans ?_ (mx0_ge a1)
      simp only [a2, a3, Bool.and_self, if_true]
      omega
theorem dpo_at (n K : Nat) (su : Nat → Nat → Bool) (py : Nat → Nat) : ∀ (r : Nat), r ≤ n → ∀ (B : Nat → Bool), ∃ (W : Nat → Bool) (f : Nat → Nat), Mt n K su B W f ∧ (∀ o, o < n → W o = true → n ≤ o + r) ∧ wt n py W = dpo n K su py r B := by
  intro r
  induction r with
  | zero =>
    intro _ B
    exact ⟨fun _ => false, fun _ => 0, ⟨fun o _ h => (by cases h), fun o o' _ _ h => (by cases h)⟩, fun o _ h => (by cases h), wt_zero (fun _ _ => rfl)⟩
  | succ r ih =>
    intro hr B
    have left : ∃ (W : Nat → Bool) (f : Nat → Nat), Mt n K su B W f ∧ (∀ o, o < n → W o = true → n ≤ o + (r + 1)) ∧ wt n py W = dpo n K su py r B := by
      obtain ⟨W, f, h1, h2, h3⟩ := ih (by omega) B
      exact ⟨W, f, h1, fun o ho hW => by have := h2 o ho hW; omega, h3⟩
    rw [dpo]
    generalize hm : mx0 (fun k => if B k && su (n - 1 - r) k then py (n - 1 - r) + dpo n K su py r (fun j => if j = k then false else B j) else 0) K = m
    rcases Nat.lt_or_ge (dpo n K su py r B) m with q | q
    · rw [Nat.max_eq_right (Nat.le_of_lt q)]
      obtain ⟨k, hk, e⟩ := mx0_at (f := fun k => if B k && su (n - 1 - r) k then py (n - 1 - r) + dpo n K su py r (fun j => if j = k then false else B j) else 0) (n := K) (by omega)
      rw [hm] at e
      by_cases c : (B k && su (n - 1 - r) k) = true
      · simp only [c, if_true] at e
        rw [Bool.and_eq_true] at c
        obtain ⟨W, f, h1, h2, h3⟩ := ih (by omega) (fun j => if j = k then false else B j)
        have hn : W (n - 1 - r) = false := by
          cases z : W (n - 1 - r) with
          | false => rfl
          | true => have := h2 _ (by omega) z; omega
        have g1 : ∀ o, o < n → W o = true → f o < K ∧ f o ≠ k ∧ B (f o) = true ∧ su o (f o) = true := fun o ho hW => by
          obtain ⟨b1, b2, b3⟩ := h1.1 o ho hW
          by_cases z : f o = k
          · simp [z] at b2
          · simp only [z, if_false] at b2
            exact ⟨b1, z, b2, b3⟩
        refine ⟨fun o => if o = n - 1 - r then true else W o, fun o => if o = n - 1 - r then k else f o, ⟨fun o ho hW => ?_, fun o o' ho ho' hW hW' he => ?_⟩, fun o ho hW => ?_, ?_⟩
        · by_cases z : o = n - 1 - r
          · simp only [z, if_true]; exact ⟨hk, c.1, c.2⟩
          · simp only [z, if_false] at hW ⊢
            obtain ⟨b1, b2, b3, b4⟩ := g1 o ho hW
            exact ⟨b1, b3, b4⟩
        · by_cases z : o = n - 1 - r
          · by_cases z' : o' = n - 1 - r
            · omega
            · simp only [z, z', if_true, if_false] at hW' he
              exact absurd he.symm (g1 o' ho' hW').2.1
          · by_cases z' : o' = n - 1 - r
            · simp only [z, z', if_true, if_false] at hW he
              exact absurd he (g1 o ho hW).2.1
            · simp only [z, z', if_false] at hW hW' he
              exact h1.2 o o' ho ho' hW hW' he
        · by_cases z : o = n - 1 - r
          · omega
          · simp only [z, if_false] at hW
            have := h2 o ho hW
            omega
        · rw [wt_del (x := n - 1 - r) (by omega) (by simp)]
          have : (fun o => if o = n - 1 - r then false else (if o = n - 1 - r then true else W o)) = W := by
            funext o
            by_cases z : o = n - 1 - r
            · simp [z, hn]
            · simp [z]
          rw [this, h3]
          omega
      · rw [if_neg c] at e
        omega
    · rw [Nat.max_eq_left q]
      exact left
/-- who holds a block -/
def Hd (n K : Nat) (su : Nat → Nat → Bool) (B P : Nat → Bool) (hd : Nat → Option Nat) : Prop :=
  (∀ k o, hd k = some o → k < K ∧ o < n ∧ B k = true ∧ su o k = true ∧ P o = true) ∧ (∀ k k' o, hd k = some o → hd k' = some o → k = k')
def Clo (K : Nat) (su : Nat → Nat → Bool) (B T : Nat → Bool) (hd : Nat → Option Nat) : Prop :=
  ∀ k, T k = true → k < K ∧ ∃ o, hd k = some o ∧ ∀ k', k' < K → B k' = true → su o k' = true → T k' = true
def Shd (n : Nat) (Sx : Nat → Bool) (hd : Nat → Option Nat) : Prop := ∀ o, o < n → (Sx o = true ↔ ∃ k, hd k = some o)
def Rej (n K : Nat) (su : Nat → Nat → Bool) (B P Sx T : Nat → Bool) : Prop := ∀ o, o < n → P o = true → Sx o = false → ∀ k', k' < K → B k' = true → su o k' = true → T k' = true
theorem max_card {n K : Nat} {su : Nat → Nat → Bool} {B P Sx T W : Nat → Bool} {hd : Nat → Option Nat} {f : Nat → Nat} (h1 : Hd n K su B P hd) (h2 : Clo K su B T hd) (h3 : Shd n Sx hd) (h4 : Rej n K su B P Sx T) (hM : Mt n K su B W f) (hW : ∀ o, o < n → W o = true → P o = true) : fb_ct W n ≤ fb_ct Sx n := by
  have split : ∀ (V A : Nat → Bool), fb_ct V n = fb_ct (fun o => V o && A o) n + fb_ct (fun o => V o && !A o) n := fun V A => by
    rw [← fb_ct_or (fun k _ q => by simp only [Bool.and_eq_true, Bool.not_eq_true'] at q; rw [q.1.2] at q; exact absurd q.2.2 (by simp))]
    exact fb_ct_cong (fun k _ => by cases V k <;> cases A k <;> rfl)
  have hA : ∃ A : Nat → Bool, ∀ o, A o = true ↔ ∀ k', k' < K → B k' = true → su o k' = true → T k' = true :=
    ⟨fun o => decide (∀ k', k' < K → B k' = true → su o k' = true → T k' = true), fun o => by simp⟩
  obtain ⟨A, hA⟩ := hA
  rw [split W A, split Sx A]
  have a1 : fb_ct (fun o => W o && A o) n ≤ fb_ct T K := ct_inj f (fun o ho q => by
    rw [Bool.and_eq_true] at q
    obtain ⟨b1, b2, b3⟩ := hM.1 o ho q.1
    exact ⟨b1, (hA o).mp q.2 _ b1 b2 b3⟩) (fun o o' ho ho' q q' e => by
    rw [Bool.and_eq_true] at q q'
    exact hM.2 o o' ho ho' q.1 q'.1 e)
  have a2 : fb_ct T K ≤ fb_ct (fun o => Sx o && A o) n := ct_inj (fun k => (hd k).getD 0) (fun k hk q => by
    obtain ⟨_, o, ho, hc⟩ := h2 k q
    obtain ⟨b1, b2, b3, b4, b5⟩ := h1.1 k o ho
    simp only [ho, Option.getD_some, Bool.and_eq_true]
    exact ⟨b2, (h3 o b2).mpr ⟨k, ho⟩, (hA o).mpr hc⟩) (fun k k' hk hk' q q' e => by
    obtain ⟨_, o, ho, hc⟩ := h2 k q
    obtain ⟨_, o', ho', hc'⟩ := h2 k' q'
    simp only [ho, ho', Option.getD_some] at e
    subst e
    exact h1.2 k k' o ho ho')
  have a3 : fb_ct (fun o => W o && !A o) n ≤ fb_ct (fun o => Sx o && !A o) n := fb_ct_sub (fun o ho q => by
    simp only [Bool.and_eq_true, Bool.not_eq_true'] at q ⊢
    refine ⟨?_, q.2⟩
    cases z : Sx o with
    | true => rfl
    | false =>
      have := (hA o).mpr (h4 o ho (hW o ho q.1) z)
      rw [q.2] at this; cases this)
  omega
theorem sm_lt (a : Nat) : ∀ c, a ≤ c → fb_sm (fun t => if t < a then 1 else 0) c = a := by
  have gen : ∀ c, fb_sm (fun t => if t < a then 1 else 0) c = min a c := by
    intro c
    induction c with
    | zero => simp [fb_sm]
    | succ c ih =>
      rw [fb_sm_succ, ih]
      by_cases h : c < a
      · simp only [h, if_true]; omega
      · simp only [h, if_false]; omega
  intro c h
  rw [gen c]; omega
theorem wt_abel {py : Nat → Nat} {W : Nat → Bool} {c : Nat} : ∀ {n : Nat}, (∀ o, o < n → py o ≤ c) → wt n py W = fb_sm (fun t => fb_ct (fun o => W o && decide (t < py o)) n) c := by
  intro n
  induction n with
  | zero =>
    intro _
    show 0 = fb_sm (fun t => 0) c
    rw [fb_sm_const]; omega
  | succ n ih =>
    intro h
    have e : wt (n + 1) py W = wt n py W + (if W n then py n else 0) := fb_sm_succ _ n
    have e2 : (fun t => fb_ct (fun o => W o && decide (t < py o)) (n + 1)) = fun t => fb_ct (fun o => W o && decide (t < py o)) n + (if W n && decide (t < py n) then 1 else 0) := by
      funext t; exact fb_ct_succ _ n
    rw [e, e2, fb_sm_add, ih (fun o ho => h o (by omega))]
    congr 1
    cases q : W n with
    | false => simp [fb_sm_const]
    | true => simp only [Bool.true_and, decide_eq_true_eq, if_true]; exact (sm_lt (py n) c (h n (by omega))).symm
theorem wt_le {n c : Nat} {py : Nat → Nat} {W V : Nat → Bool} (hc : ∀ o, o < n → py o ≤ c) (h : ∀ t, fb_ct (fun o => W o && decide (t < py o)) n ≤ fb_ct (fun o => V o && decide (t < py o)) n) : wt n py W ≤ wt n py V := by
  rw [wt_abel hc, wt_abel hc]
  exact fb_sm_le (fun t _ => h t)
/-- no choice of orders has more of the better paid -/
def Crd (n K : Nat) (su : Nat → Nat → Bool) (py : Nat → Nat) (B P Sx : Nat → Bool) : Prop :=
  ∀ (t : Nat) (W : Nat → Bool) (f : Nat → Nat), Mt n K su B W f → (∀ o, o < n → W o = true → P o = true) → fb_ct (fun o => W o && decide (t < py o)) n ≤ fb_ct (fun o => Sx o && decide (t < py o)) n
theorem card_step {n K x : Nat} {su : Nat → Nat → Bool} {py : Nat → Nat} {B P Sx P' Sx' T' : Nat → Bool} {hd' : Nat → Option Nat} (hc : Crd n K su py B P Sx)
    (hP : ∀ o, o < n → (P' o = true ↔ P o = true ∨ o = x)) (hx : ∀ o, o < n → P o = true → py x ≤ py o) (hS : ∀ o, o < n → Sx o = true → Sx' o = true)
    (h1 : Hd n K su B P' hd') (h2 : Clo K su B T' hd') (h3 : Shd n Sx' hd') (h4 : Rej n K su B P' Sx' T') : Crd n K su py B P' Sx' := by
  intro t W f hM hW
  rcases Nat.lt_or_ge t (py x) with q | q
  · refine Nat.le_trans (fb_ct_sub (q := W) (fun o _ z => (Bool.and_eq_true _ _ ▸ z).1)) ?_
    refine Nat.le_trans (max_card h1 h2 h3 h4 hM hW) ?_
    refine fb_ct_sub (fun o ho z => ?_)
    simp only [z, Bool.true_and, decide_eq_true_eq]
    obtain ⟨k, hk⟩ := (h3 o ho).mp z
    rcases (hP o ho).mp (h1.1 k o hk).2.2.2.2 with z2 | rfl
    · exact Nat.lt_of_lt_of_le q (hx o ho z2)
    · exact q
  · have e : fb_ct (fun o => W o && decide (t < py o)) n = fb_ct (fun o => (if o = x then false else W o) && decide (t < py o)) n := fb_ct_cong (fun o _ => by
      by_cases z : o = x
      · subst z; simp; intro _; exact q
      · simp [z])
    rw [e]
    refine Nat.le_trans (hc t (fun o => if o = x then false else W o) f ⟨fun o ho hw => ?_, fun o o' ho ho' hw hw' he => ?_⟩ (fun o ho hw => ?_)) (fb_ct_sub (fun o ho z => ?_))
    · by_cases z : o = x
      · simp [z] at hw
      · simp only [z, if_false] at hw; exact hM.1 o ho hw
    · by_cases z : o = x
      · simp [z] at hw
      · by_cases z' : o' = x
        · simp [z'] at hw'
        · simp only [z, z', if_false] at hw hw'; exact hM.2 o o' ho ho' hw hw' he
    · by_cases z : o = x
      · simp [z] at hw
      · simp only [z, if_false] at hw
        rcases (hP o ho).mp (hW o ho hw) with z2 | z2
        · exact z2
        · exact absurd z2 z
    · rw [Bool.and_eq_true] at z ⊢
      exact ⟨hS o ho z.1, z.2⟩
/-- the best paid first: the sum is the greatest -/
theorem greedy_opt {n K c r : Nat} {su : Nat → Nat → Bool} {py : Nat → Nat} {B P Sx : Nat → Bool} {hd : Nat → Option Nat} (hr : r ≤ n) (hpc : ∀ o, o < n → py o ≤ c)
    (hc : Crd n K su py B P Sx) (h1 : Hd n K su B P hd) (h3 : Shd n Sx hd) (hP : ∀ o, o < n → (P o = true ↔ n ≤ o + r)) : wt n py Sx = dpo n K su py r B := by
  apply Nat.le_antisymm
  · classical
    have hex : ∀ o, o < n → Sx o = true → hd ((fun o => if h : ∃ k, hd k = some o then h.choose else 0) o) = some o := fun o ho z => by
      have h := (h3 o ho).mp z
      simp only [h, dif_pos]
      exact h.choose_spec
    refine dpo_up n K su py r hr B Sx (fun o => if h : ∃ k, hd k = some o then h.choose else 0) ⟨fun o ho z => ?_, fun o o' ho ho' z z' e => ?_⟩ (fun o ho z => ?_)
    · obtain ⟨b1, b2, b3, b4, b5⟩ := h1.1 _ o (hex o ho z)
      exact ⟨b1, b3, b4⟩
    · have a := hex o ho z
      have b := hex o' ho' z'
      exact Option.some.inj (a.symm.trans ((congrArg hd e).trans b))
    · exact (hP o ho).mp (h1.1 _ o (hex o ho z)).2.2.2.2
  · obtain ⟨W, f, a1, a2, a3⟩ := dpo_at n K su py r hr B
    rw [← a3]
    exact wt_le hpc (fun t => hc t W f a1 (fun o ho z => (hP o ho).mpr (a2 o ho z)))
