/-! names whose seconds go on: told, name, stamp, fault, end -/
def sellf (pr : Nat → Bool) (sc : Nat → Option Nat) : Nat → Nat → Option Nat
  | 0, _ => none
  | f + 1, n => if pr n then some n else match sc n with
    | none => none
    | some m => sellf pr sc f m
def stepf (pr : Nat → Bool) (sc : Nat → Option Nat) : Nat → Nat → Nat
  | 0, _ => 0
  | f + 1, n => if pr n then 0 else match sc n with
    | none => 0
    | some m => stepf pr sc f m + 1
def nth_ (sc : Nat → Option Nat) : Nat → Nat → Option Nat
  | 0, n => some n
  | k + 1, n => match nth_ sc k n with
    | none => none
    | some m => sc m
theorem nth_pre {sc : Nat → Option Nat} {n : Nat} : ∀ (k : Nat), nth_ sc k n = none → nth_ sc (k + 1) n = none := by
  intro k h
  rw [nth_, h]
theorem nth_some {sc : Nat → Option Nat} {n : Nat} : ∀ (j k : Nat), nth_ sc (k + j) n ≠ none → nth_ sc k n ≠ none := by
  intro j
  induction j with
  | zero => intro k h; exact h
  | succ j ih => intro k h; exact ih k (fun q => h (nth_pre _ q))
/-- after eight steps one is at the end -/
theorem nth_8 {sc : Nat → Option Nat} (ha : Acy sc) {n : Nat} (hn : n < 8) : nth_ sc 8 n = none := by
  obtain ⟨rk, hr⟩ := ha
  apply Classical.byContradiction
  intro hne
  have hs : ∀ k, k < 9 → ∃ x, nth_ sc k n = some x := fun k hk => by
    have : nth_ sc k n ≠ none := nth_some (8 - k) k (by rw [show k + (8 - k) = 8 by omega]; exact hne)
    cases h : nth_ sc k n with
    | none => exact absurd h this
    | some x => exact ⟨x, rfl⟩
  have hlt : ∀ k, k < 9 → ∀ x, nth_ sc k n = some x → x < 8 := by
    intro k
    induction k with
    | zero => intro _ x hx; cases hx; exact hn
    | succ k ih =>
      intro hk x hx
      obtain ⟨y, hy⟩ := hs k (by omega)
      rw [nth_, hy] at hx
      exact (hr y x (ih (by omega) y hy) hx).1
  have step : ∀ k, k + 1 < 9 → ∀ x y, nth_ sc k n = some x → nth_ sc (k + 1) n = some y → rk y < rk x := fun k hk x y hx hy => by
    rw [nth_, hx] at hy
    exact (hr x y (hlt k (by omega) x hx) hy).2
  have dec : ∀ (j i : Nat), i + j + 1 < 9 → ∀ x y, nth_ sc i n = some x → nth_ sc (i + j + 1) n = some y → rk y < rk x := by
    intro j
    induction j with
    | zero => intro i hi x y hx hy; exact step i hi x y hx hy
    | succ j ih =>
      intro i hi x y hx hy
      obtain ⟨z, hz⟩ := hs (i + j + 1) (by omega)
      have a := ih i (by omega) x z hx hz
      have b := step (i + j + 1) (by omega) z y hz hy
      omega
  have := fb_holes 8 9 (fun k => (nth_ sc k n).getD 0) (fun i hi => by
    obtain ⟨x, hx⟩ := hs i hi
    simp only [hx, Option.getD_some]
    exact hlt i hi x hx) (fun i j hij hj => by
    obtain ⟨x, hx⟩ := hs i (by omega)
    obtain ⟨y, hy⟩ := hs j hj
    simp only [hx, hy, Option.getD_some]
    intro e
    have := dec (j - i - 1) i (by omega) x y hx (by rw [show i + (j - i - 1) + 1 = j by omega]; exact hy)
    rw [e] at this
    omega)
  omega
theorem sell_pr {pr : Nat → Bool} {sc : Nat → Option Nat} : ∀ (f n x : Nat), sellf pr sc f n = some x → pr x = true := by
  intro f
  induction f with
  | zero => intro n x h; cases h
  | succ f ih =>
    intro n x h
    rw [sellf] at h
    by_cases c : pr n = true
    · rw [if_pos c] at h; cases h; exact c
    · rw [if_neg c] at h
      cases hs : sc n with
      | none => rw [hs] at h; cases h
      | some m => rw [hs] at h; exact ih m x h
theorem sell_lt {pr : Nat → Bool} {sc : Nat → Option Nat} (ha : Acy sc) : ∀ (f n x : Nat), n < 8 → sellf pr sc f n = some x → x < 8 := by
  intro f
  induction f with
  | zero => intro n x _ h; cases h
  | succ f ih =>
    intro n x hn h
    rw [sellf] at h
    by_cases c : pr n = true
    · rw [if_pos c] at h; cases h; exact hn
    · rw [if_neg c] at h
      cases hs : sc n with
      | none => rw [hs] at h; cases h
      | some m =>
        rw [hs] at h
        obtain ⟨rk, hr⟩ := ha
        exact ih m x (hr n m hn hs).1 h
theorem nth_lt {sc : Nat → Option Nat} (ha : Acy sc) {n : Nat} (hn : n < 8) : ∀ (k x : Nat), nth_ sc k n = some x → x < 8 := by
  obtain ⟨rk, hr⟩ := ha
  intro k
  induction k with
  | zero => intro x hx; cases hx; exact hn
  | succ k ih =>
    intro x hx
    rw [nth_] at hx
    cases hk : nth_ sc k n with
    | none => rw [hk] at hx; cases hx
    | some y => rw [hk] at hx; exact (hr y x (ih y hk) hx).1
theorem sv_m4 {o : Option Nat} (h : ∀ x, o = some x → x < 8) : (sv o = -4) ↔ o = none := by
  cases o with
  | none => simp [sv]
  | some x =>
    have := h x rfl
    simp only [sv, m4_ne (show x < 2 ^ 31 by omega), reduceCtorEq]
theorem seller_x {S : St} {L g n : Nat} {le : Nat → Nat} {sc : Nat → Option Nat} (ha : Acy sc) (h1 : ∀ i, i < 8 → aI_ S (L + 4) i = nI (le i)) (hle : ∀ i, i < 8 → le i ≤ 5) (h2 : ∀ i, i < 8 → aI_ S (L + 5) i = sv (sc i)) (hg : g ≤ 5) (hn : n < 8) : fX3_seller L S (nI n) (nI g) = some (sv (sellf (fun i => decide (le i ≤ g)) sc 8 n)) := by
  obtain ⟨T, hT⟩ : ∃ T, T = sellf (fun i => decide (le i ≤ g)) sc 8 n := ⟨_, rfl⟩
  rw [← hT]
  unfold fX3_seller
  have hrk := ha
  obtain ⟨rk, hr⟩ := hrk
  obtain ⟨r, e, hq⟩ := lp_inv (body := fun w21 : Int32 × Int32 => bX3_seller_5 L S (nI g) w21.1 w21.2) (fun i s => ∃ cur, s = (sv cur, nI i) ∧ cur = nth_ sc i n ∧ T = (match cur with | none => none | some c => sellf (fun i => decide (le i ≤ g)) sc (8 - i) c)) (fun r => (r = .inl () ∧ T = none) ∨ ∃ x, r = .inr (nI x) ∧ T = some x) 8 (m := 5000) (s := (nI n, 0)) (by omega) ⟨some n, rfl, rfl, hT⟩
    (fun i s hi ⟨cur, hs, hc, hf⟩ => by
      have hn' : ¬ 8 ≤ i := by omega
      subst hs
      unfold bX3_seller_5
      simp (disch := omega) only [li_le1, li_le2, li_lt1, li_lt2, li_eq1, li_eq2, li_add1, li_add2, li_sub1, li_sub2, li_mul1, li_mul2, li_div2, nI_leI, nI_ltI, nI_eq, nI_add, nI_sub, nI_mul, nI_div, rI_n, rL_n, rR_n, wI_n, wL_n, li_rI, li_rL, li_rR, li_wI, li_wL, b1_s, bs_l, bs_r, oI_e, oL_e, oR_e, wZ_0, wZ_1, wZ_b, if_true, if_false, not_true_eq_false, not_false_eq_true, hn']
      cases cur with
      | none => exact Or.inr ⟨_, by rw [if_pos (show sv none = -4 from rfl)], Or.inl ⟨rfl, hf⟩⟩
      | some c =>
        have hc8 := nth_lt ha hn i c hc.symm
        have hl5 := hle c hc8
        simp only [sv]
        simp (disch := omega) only [li_le1, li_le2, li_lt1, li_lt2, li_eq1, li_eq2, li_add1, li_add2, li_sub1, li_sub2, li_mul1, li_mul2, li_div2, nI_leI, nI_ltI, nI_eq, nI_add, nI_sub, nI_mul, nI_div, rI_n, rL_n, rR_n, wI_n, wL_n, li_rI, li_rL, li_rR, li_wI, li_wL, b1_s, bs_l, bs_r, oI_e, oL_e, oR_e, wZ_0, wZ_1, wZ_b, if_true, if_false, not_true_eq_false, not_false_eq_true, m4_ne (show c < 2 ^ 31 by omega), h1 c hc8, h2 c hc8]
        obtain ⟨f, hf8⟩ : ∃ f, 8 - i = f + 1 := ⟨8 - i - 1, by omega⟩
        simp only at hf
        rw [hf8, sellf] at hf
        by_cases z : le c ≤ g
        · have z' : ¬ g < le c := by omega
          simp only [z, decide_true, if_true] at hf
          exact Or.inr ⟨.inr (nI c), by rw [if_neg z'], Or.inr ⟨c, rfl, hf⟩⟩
        · have z' : g < le c := by omega
          simp only [z, decide_false, Bool.false_eq_true, if_false] at hf
          refine Or.inl ⟨(sv (sc c), nI (i + 1)), by rw [if_pos z'], sc c, rfl, ?_, ?_⟩
          · rw [nth_, ← hc]
          · rw [hf, show 8 - (i + 1) = f by omega])
    (fun s ⟨cur, hs, hc, hf⟩ => ⟨.inl (), by
      subst hs
      unfold bX3_seller_5
      simp (disch := omega) only [li_le1, li_le2, li_lt1, li_lt2, li_eq1, li_eq2, li_add1, li_add2, li_sub1, li_sub2, li_mul1, li_mul2, li_div2, nI_leI, nI_ltI, nI_eq, nI_add, nI_sub, nI_mul, nI_div, rI_n, rL_n, rR_n, wI_n, wL_n, li_rI, li_rL, li_rR, li_wI, li_wL, b1_s, bs_l, bs_r, oI_e, oL_e, oR_e, wZ_0, wZ_1, wZ_b, if_true, if_false, not_true_eq_false, not_false_eq_true, Nat.le_refl], Or.inl ⟨rfl, by
      rw [nth_8 ha hn] at hc
      subst hc
      exact hf⟩⟩)
  rw [e]
  rcases hq with ⟨rfl, z⟩ | ⟨x, rfl, z⟩
  · rw [z]; rfl
  · rw [z]; rfl
theorem steps_x {S : St} {L n : Nat} {g : Int32} {pr : Nat → Bool} {le : Nat → Nat} {sc : Nat → Option Nat} (ha : Acy sc) (h1 : ∀ i, i < 8 → aI_ S (L + 4) i = nI (le i)) (hg : ∀ i, i < 8 → (nI (le i) ≤ g ↔ pr i = true)) (h2 : ∀ i, i < 8 → aI_ S (L + 5) i = sv (sc i)) (hn : n < 8) : fX3_stepsToSell L S (nI n) g = some (nI (stepf pr sc 8 n)) := by
  obtain ⟨T, hT⟩ : ∃ T, T = stepf pr sc 8 n := ⟨_, rfl⟩
  rw [← hT]
  unfold fX3_stepsToSell
  have hrk := ha
  obtain ⟨rk, hr⟩ := hrk
  obtain ⟨r, e, hq⟩ := lp_inv (body := fun w21 : Int32 × Int32 × Int32 => bX3_stepsToSell_8 L S g w21.1 w21.2.1 w21.2.2) (fun i s => ∃ c, s = (nI c, nI i, nI i) ∧ nth_ sc i n = some c ∧ T = stepf pr sc (8 - i) c + i) (fun r => r = .inr (nI (T))) 8 (m := 5000) (s := (nI n, 0, 0)) (by omega) ⟨n, rfl, rfl, hT⟩
    (fun i s hi ⟨c, hs, hc, hf⟩ => by
      have hn' : ¬ 8 ≤ i := by omega
      subst hs
      have hc8 := nth_lt ha hn i c hc
      unfold bX3_stepsToSell_8
      simp (disch := omega) only [li_le1, li_le2, li_lt1, li_lt2, li_eq1, li_eq2, li_add1, li_add2, li_sub1, li_sub2, li_mul1, li_mul2, li_div2, nI_leI, nI_ltI, nI_eq, nI_add, nI_sub, nI_mul, nI_div, rI_n, rL_n, rR_n, wI_n, wL_n, li_rI, li_rL, li_rR, li_wI, li_wL, b1_s, bs_l, bs_r, oI_e, oL_e, oR_e, wZ_0, wZ_1, wZ_b, if_true, if_false, not_true_eq_false, not_false_eq_true, hn', h1 c hc8, h2 c hc8, hg c hc8, sv_m4 (o := sc c) (fun x hx => (hr c x hc8 hx).1)]
      obtain ⟨f, hf8⟩ : ∃ f, 8 - i = f + 1 := ⟨8 - i - 1, by omega⟩
      rw [hf8, stepf] at hf
      by_cases z : pr c = true
      · rw [if_pos z] at hf ⊢
        refine Or.inr ⟨_, rfl, ?_⟩
        rw [hf, Nat.zero_add]
      · rw [if_neg z] at hf ⊢
        cases hs : sc c with
        | none =>
          rw [hs] at hf
          simp only [if_true]
          exact Or.inr ⟨_, rfl, by rw [hf, Nat.zero_add]⟩
        | some m =>
          rw [hs] at hf
          simp only [reduceCtorEq, if_false]
          refine Or.inl ⟨_, rfl, m, rfl, ?_, ?_⟩
          · rw [nth_, hc]; exact hs
          · rw [hf, show 8 - (i + 1) = f by omega]; show stepf pr sc f m + 1 + i = _; omega)
    (fun s ⟨c, hs, hc, hf⟩ => absurd hc (by rw [nth_8 ha hn]; simp))
  rw [e, hq]
  rfl
theorem sold_m {S : St} {g n p : Nat} {le : Nat → Nat} {sc : Nat → Option Nat} (ha : Acy sc) (h1 : ∀ i, i < 8 → aI_ S 32 i = nI (le i)) (hle : ∀ i, i < 8 → le i ≤ 5) (h2 : ∀ i, i < 8 → aI_ S 33 i = sv (sc i)) (hg : g ≤ 5) (hn : n < 8) (hp : p < 12) (h3 : aI_ S 23 p = nI g) (h4 : aI_ S 27 p = nI n) : fX12_soldAs S (nI p) = some (sv (sellf (fun i => decide (le i ≤ g)) sc 8 n)) := by
  obtain ⟨T, hT⟩ : ∃ T, T = sellf (fun i => decide (le i ≤ g)) sc 8 n := ⟨_, rfl⟩
  rw [← hT]
  unfold fX12_soldAs
  simp (disch := omega) only [li_le1, li_le2, li_lt1, li_lt2, li_eq1, li_eq2, li_add1, li_add2, li_sub1, li_sub2, li_mul1, li_mul2, li_div2, nI_leI, nI_ltI, nI_eq, nI_add, nI_sub, nI_mul, nI_div, rI_n, rL_n, rR_n, wI_n, wL_n, li_rI, li_rL, li_rR, li_wI, li_wL, b1_s, bs_l, bs_r, oI_e, oL_e, oR_e, wZ_0, wZ_1, wZ_b, if_true, if_false, not_true_eq_false, not_false_eq_true, h4]
  obtain ⟨r, e, hq⟩ := lp_inv (body := fun w22 : Int32 => bX12_soldAs_7 S (nI p) w22) (fun i s => ∃ cur, s = sv cur ∧ cur = nth_ sc i n ∧ T = (match cur with | none => none | some c => sellf (fun i => decide (le i ≤ g)) sc (8 - i) c)) (fun r => r = sv (T)) 8 (m := 5000) (s := nI n) (by omega) ⟨some n, rfl, rfl, hT⟩
    (fun i s hi ⟨cur, hs, hc, hf⟩ => by
      subst hs
      unfold bX12_soldAs_7
      cases cur with
      | none => exact Or.inr ⟨_, by rw [if_pos (show sv none = -4 from rfl)], by rw [hf]⟩
      | some c =>
        have hc8 := nth_lt ha hn i c hc.symm
        have hl5 := hle c hc8
        simp only [sv]
        simp (disch := omega) only [li_le1, li_le2, li_lt1, li_lt2, li_eq1, li_eq2, li_add1, li_add2, li_sub1, li_sub2, li_mul1, li_mul2, li_div2, nI_leI, nI_ltI, nI_eq, nI_add, nI_sub, nI_mul, nI_div, rI_n, rL_n, rR_n, wI_n, wL_n, li_rI, li_rL, li_rR, li_wI, li_wL, b1_s, bs_l, bs_r, oI_e, oL_e, oR_e, wZ_0, wZ_1, wZ_b, if_true, if_false, not_true_eq_false, not_false_eq_true, m4_ne (show c < 2 ^ 31 by omega), h1 c hc8, h2 c hc8, h3]
        obtain ⟨f, hf8⟩ : ∃ f, 8 - i = f + 1 := ⟨8 - i - 1, by omega⟩
        simp only at hf
        rw [hf8, sellf] at hf
        by_cases z : le c ≤ g
        · simp only [z, decide_true, if_true] at hf
          exact Or.inr ⟨nI c, by rw [if_pos z], by rw [hf]⟩
        · simp only [z, decide_false, Bool.false_eq_true, if_false] at hf
          refine Or.inl ⟨sv (sc c), by rw [if_neg z], sc c, rfl, ?_, ?_⟩
          · rw [nth_, ← hc]
          · rw [hf, show 8 - (i + 1) = f by omega])
    (fun s ⟨cur, hs, hc, hf⟩ => by
      rw [nth_8 ha hn] at hc
      subst hc
      subst hs
      exact ⟨_, by unfold bX12_soldAs_7; rw [if_pos (show sv none = -4 from rfl)], by rw [hf]⟩)
  rw [e, hq]
  rfl
/-- wentOn up to a name (or to the end) -/
theorem went_m {S : St} {n : Nat} {to : Option Nat} {pr : Nat → Bool} {sc : Nat → Option Nat} (ha : Acy sc) (h2 : ∀ i, i < 8 → aI_ S 33 i = sv (sc i)) (hn : n < 8) (ht : to = sellf pr sc 8 n) : fX12_wentOn S (nI n) (sv to) = some (nI (stepf pr sc 8 n)) := by
  obtain ⟨T, hT⟩ : ∃ T, T = stepf pr sc 8 n := ⟨_, rfl⟩
  rw [← hT]
  unfold fX12_wentOn
  have hrk := ha
  obtain ⟨rk, hr⟩ := hrk
  have ht8 : ∀ x, to = some x → x < 8 := fun x hx => sell_lt ha 8 n x hn (ht ▸ hx)
  have eqv : ∀ c, c < 8 → ((nI c = sv to) ↔ to = some c) := fun c hc => by
    cases to with
    | none => simp only [sv, m4_ne (show c < 2 ^ 31 by omega), reduceCtorEq]
    | some x =>
      have := ht8 x rfl
      simp only [sv, nI_eq (show c < 2 ^ 31 by omega) (show x < 2 ^ 31 by omega), Option.some.injEq]
      exact eq_comm
  obtain ⟨r, e, hq⟩ := lp_inv (body := fun w21 : Int32 × Int32 => bX12_wentOn_5 S (sv to) w21.1 w21.2) (fun i s => ∃ c, s = (nI i, nI c) ∧ nth_ sc i n = some c ∧ T = stepf pr sc (8 - i) c + i ∧ to = sellf pr sc (8 - i) c) (fun r => r = nI (T)) 8 (m := 5000) (s := (0, nI n)) (by omega) ⟨n, rfl, rfl, hT, ht⟩
    (fun i s hi ⟨c, hs, hc, hf, hg⟩ => by
      subst hs
      have hc8 := nth_lt ha hn i c hc
      unfold bX12_wentOn_5
      simp (disch := omega) only [li_le1, li_le2, li_lt1, li_lt2, li_eq1, li_eq2, li_add1, li_add2, li_sub1, li_sub2, li_mul1, li_mul2, li_div2, nI_leI, nI_ltI, nI_eq, nI_add, nI_sub, nI_mul, nI_div, rI_n, rL_n, rR_n, wI_n, wL_n, li_rI, li_rL, li_rR, li_wI, li_wL, b1_s, bs_l, bs_r, oI_e, oL_e, oR_e, wZ_0, wZ_1, wZ_b, if_true, if_false, not_true_eq_false, not_false_eq_true, eqv c hc8, h2 c hc8, sv_m4 (o := sc c) (fun x hx => (hr c x hc8 hx).1)]
      obtain ⟨f, hf8⟩ : ∃ f, 8 - i = f + 1 := ⟨8 - i - 1, by omega⟩
      rw [hf8] at hf hg
      rw [stepf] at hf
      rw [sellf] at hg
      by_cases z : pr c = true
      · rw [if_pos z] at hf hg
        rw [if_pos hg]
        exact Or.inr ⟨_, rfl, by rw [hf, Nat.zero_add]⟩
      · rw [if_neg z] at hf hg
        have hne : ¬ to = some c := fun q => z (sell_pr 8 n c (ht ▸ q))
        rw [if_neg hne]
        cases hs : sc c with
        | none =>
          rw [hs] at hf
          simp only [if_true]
          exact Or.inr ⟨_, rfl, by rw [hf, Nat.zero_add]⟩
        | some m =>
          rw [hs] at hf hg
          simp only [reduceCtorEq, if_false]
          refine Or.inl ⟨_, rfl, m, rfl, ?_, ?_, ?_⟩
          · rw [nth_, hc]; exact hs
          · rw [hf, show 8 - (i + 1) = f by omega]; show stepf pr sc f m + 1 + i = _; omega
          · rw [hg, show 8 - (i + 1) = f by omega])
    (fun s ⟨c, hs, hc, hf⟩ => absurd hc (by rw [nth_8 ha hn]; simp))
  rw [e, hq]
  rfl
