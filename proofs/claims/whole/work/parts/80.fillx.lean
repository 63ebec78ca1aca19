/-! orders: the class fills them -/
section FILL
variable {n K : Nat} {su : Nat → Nat → Bool} {py : Nat → Nat}
def fst_ (p : Nat → Bool) (K : Nat) : Option Nat := if fa_first p K < K then some (fa_first p K) else none
def del_ (B : Nat → Bool) (k : Nat) : Nat → Bool := fun j => if j = k then false else B j
def pkc (n K : Nat) (su : Nat → Nat → Bool) (py : Nat → Nat) (o : Nat) (B : Nat → Bool) (k : Nat) : Bool := (B k && su o k) && decide (py o + dpo n K su py (n - 1 - o) (del_ B k) = dpo n K su py (n - o) B)
def nxB (g : Option Nat) (B : Nat → Bool) : Nat → Bool :=
  match g with
  | none => B
  | some k => del_ B k
def fB (n K : Nat) (su : Nat → Nat → Bool) (py : Nat → Nat) : Nat → Nat → Bool
  | 0 => fun k => decide (k < K)
  | o + 1 => nxB (fst_ (pkc n K su py o (fB n K su py o)) K) (fB n K su py o)
def fg (n K : Nat) (su : Nat → Nat → Bool) (py : Nat → Nat) (o : Nat) : Option Nat := fst_ (pkc n K su py o (fB n K su py o)) K
theorem fB_succ (o : Nat) : fB n K su py (o + 1) = nxB (fg n K su py o) (fB n K su py o) := rfl
theorem fst_none {p : Nat → Bool} (h : ∀ k, k < K → p k = false) : fst_ p K = none := by
  unfold fst_
  by_cases c : fa_first p K < K
  · have := fa_first_yes p K c
    rw [h _ c] at this; cases this
  · rw [if_neg c]
theorem fst_some {p : Nat → Bool} {k : Nat} (hk : k < K) (hp : p k = true) (h : ∀ j, j < k → p j = false) : fst_ p K = some k := by
  have e : fa_first p K = k := by
    rcases Nat.lt_trichotomy (fa_first p K) k with q | q | q
    · have := fa_first_yes p K (by omega)
      rw [h _ q] at this; cases this
    · exact q
    · have := fa_first_no p K k (by omega)
      rw [hp] at this; cases this
  unfold fst_
  rw [e, if_pos hk]
theorem fst_at {p : Nat → Bool} {k : Nat} (h : fst_ p K = some k) : k < K ∧ p k = true := by
  unfold fst_ at h
  by_cases c : fa_first p K < K
  · rw [if_pos c] at h
    obtain rfl := Option.some.inj h
    exact ⟨c, fa_first_yes p K c⟩
  · rw [if_neg c] at h; cases h
theorem fst_no {p : Nat → Bool} {k : Nat} (h : fst_ p K = none) (hk : k < K) : p k = false := by
  unfold fst_ at h
  by_cases c : fa_first p K < K
  · rw [if_pos c] at h; cases h
  · exact fa_first_no p K k (by omega)
/-- what is left of the best sum behind the choice for order o -/
theorem dpo_nx {o : Nat} (ho : o < n) (B : Nat → Bool) : dpo n K su py (n - o) B = (match fst_ (pkc n K su py o B) K with | none => 0 | some _ => py o) + dpo n K su py (n - 1 - o) (nxB (fst_ (pkc n K su py o B) K) B) := by
  cases e : fst_ (pkc n K su py o B) K with
  | some k =>
    have := (fst_at e).2
    unfold pkc at this
    rw [Bool.and_eq_true, decide_eq_true_eq] at this
    exact this.2.symm
  | none =>
    have hno : ∀ k, k < K → pkc n K su py o B k = false := fun k hk => fst_no e hk
    show _ = 0 + dpo n K su py (n - 1 - o) B
    rw [Nat.zero_add]
    have e1 : n - o = (n - 1 - o) + 1 := by omega
    have e2 : n - 1 - (n - 1 - o) = o := by omega
    have ex : dpo n K su py (n - o) B = max (dpo n K su py (n - 1 - o) B) (mx0 (fun k => if B k && su o k then py o + dpo n K su py (n - 1 - o) (del_ B k) else 0) K) := by
      rw [e1, dpo, e2]; rfl
    rw [ex]
    apply Nat.max_eq_left
    apply Classical.byContradiction
    intro q
    obtain ⟨k, hk, ek⟩ := mx0_at (f := fun k => if B k && su o k then py o + dpo n K su py (n - 1 - o) (del_ B k) else 0) (n := K) (by omega)
    have hk' := hno k hk
    by_cases c : (B k && su o k) = true
    · simp only [c, if_true] at ek
      unfold pkc at hk'
      rw [c, Bool.true_and, decide_eq_false_iff_not] at hk'
      apply hk'
      rw [ex, ek]
      exact (Nat.max_eq_right (by omega)).symm
    · have ek0 : (if (B k && su o k) = true then py o + dpo n K su py (n - 1 - o) (del_ B k) else 0) = mx0 (fun k => if B k && su o k then py o + dpo n K su py (n - 1 - o) (del_ B k) else 0) K := ek
      rw [if_neg c] at ek0
      omega
theorem least_x2 {o : Nat} {B : Nat → Bool} {S : St} {vw vf : Int32} (hn : n ≤ 8) (hK : K ≤ 12) (ho : o < n) (hE : EvX n K su py S) (pb : ∀ o, o < n → 1 ≤ py o ∧ py o ≤ 1000) (hw : ∀ i, i < 32 → bt vw i = (decide (i < n) && decide (o < i))) (hf : ∀ i, i < 32 → bt vf i = (decide (i < K) && B i)) : ∃ S', fX4_leastBlock S (nI o) vw vf (nI (dpo n K su py (n - o) B)) = some (hv (fst_ (pkc n K su py o B) K), S') ∧ Fr pBs S S' := by
  have pl : ∀ r B, r ≤ n → dpo n K su py r B ≤ 8000 := fun r B hr => by have := dpo_le (K := K) (su := su) (fun o ho => (pb o ho).2) r hr B; omega
  obtain ⟨u, eu, hu⟩ := lp_inv (body := fun w21 : Int32 × St => bX4_leastBlock_3 (nI o) vw vf (nI (dpo n K su py (n - o) B)) w21.1 w21.2)
    (fun i s => s.1 = nI i ∧ Fr pBs S s.2 ∧ ∀ k, k < i → pkc n K su py o B k = false)
    (fun r => (∃ S', r = .inl S' ∧ Fr pBs S S' ∧ fst_ (pkc n K su py o B) K = none) ∨ (∃ k S', r = .inr (nI k, S') ∧ Fr pBs S S' ∧ fst_ (pkc n K su py o B) K = some k)) K (m := 5000) (s := (0, S)) (by omega) ⟨rfl, Fr.refl _ _, fun k h => by omega⟩
    (by
      rintro i ⟨s1, s2⟩ hi ⟨k1, k2, k3⟩
      obtain rfl : s1 = _ := k1
      have k2' : Fr pBs S s2 := k2
      obtain ⟨g1, g2, g3, g4⟩ := hE.fr k2'
      have ei : nI i + 1 = nI (i + 1) := nI_add _ 1
      have hi32 : i < 32 := by omega
      have bb : bt (aI_ s2 47 o &&& vf) i = (su o i && B i) := by
        rw [b_and, g3 o ho i hi32, hf i hi32, decide_eq_true hi]; simp
      have nle : ¬ nI K ≤ nI i := nI_ge hi (by omega)
      have keep : pkc n K su py o B i = false → ∀ k, k < i + 1 → pkc n K su py o B k = false := fun q k hk => by
        by_cases z : k = i
        · rw [z]; exact q
        · exact k3 k (by omega)
      show (∃ s', bX4_leastBlock_3 (nI o) vw vf (nI (dpo n K su py (n - o) B)) (nI i) s2 = _ ∧ _) ∨ (∃ r, bX4_leastBlock_3 (nI o) vw vf (nI (dpo n K su py (n - o) B)) (nI i) s2 = _ ∧ _)
      unfold bX4_leastBlock_3
      rw [g1, if_neg nle, rI_n (by omega) (by omega), b1_s]
      by_cases c : su o i = true ∧ B i = true
      · have t1 : bt (aI_ s2 47 o &&& vf) i = true := by rw [bb, c.1, c.2]; rfl
        rw [if_neg (tst_t hi32 t1), b1_s, if_neg (by decide : ¬ (1 : Int32) = 0), rI_n (by omega) (by omega), b1_s, g4 o ho]
        obtain ⟨S', e, f⟩ := bestSum_x (r := n - 1 - o) (B := del_ B i) (vw := vw) (vf := vf &&& (((1 : Int32) <<< (nI i &&& 31)) ^^^ (-1))) hn hK (by omega) (hE.fr k2') pb (fun j hj => by
          rw [hw j hj]
          by_cases q : j < n
          · congr 1
            rw [decide_eq_decide]; omega
          · simp [q]) (fun j hj => by
          rw [clr hi32 hj, hf j hj]
          unfold del_
          by_cases q : j = i <;> simp [q])
        rw [e, b1_s, nI_add]
        have p1 := pl (n - 1 - o) (del_ B i) (by omega)
        have p2 := pl (n - o) B (by omega)
        have p3 := (pb o ho).2
        by_cases d : py o + dpo n K su py (n - 1 - o) (del_ B i) = dpo n K su py (n - o) B
        · rw [if_pos (congrArg nI d)]
          exact Or.inr ⟨_, rfl, Or.inr ⟨i, S', rfl, k2'.trans f, fst_some hi (by unfold pkc; rw [c.1, c.2, decide_eq_true d]; rfl) (fun j hj => k3 j hj)⟩⟩
        · rw [if_neg (fun q => d ((nI_eq (by omega) (by omega)).mp q)), ei]
          exact Or.inl ⟨_, rfl, rfl, k2'.trans f, keep (by unfold pkc; rw [decide_eq_false d, Bool.and_false])⟩
      · have c' : (B i && su o i) = false := by
          cases q1 : su o i <;> cases q2 : B i <;> first | rfl | exact absurd ⟨q1, q2⟩ c
        have t1 : bt (aI_ s2 47 o &&& vf) i = false := by rw [bb, Bool.and_comm]; exact c'
        rw [if_pos ((tst hi32).mpr t1), b1_s, if_pos rfl, ei]
        exact Or.inl ⟨_, rfl, rfl, k2', keep (by unfold pkc; rw [c', Bool.false_and])⟩)
    (by
      rintro ⟨s1, s2⟩ ⟨k1, k2, k3⟩
      obtain rfl : s1 = _ := k1
      have k2' : Fr pBs S s2 := k2
      obtain ⟨g1, g2, g3, g4⟩ := hE.fr k2'
      refine ⟨.inl s2, ?_, Or.inl ⟨s2, rfl, k2', fst_none k3⟩⟩
      show bX4_leastBlock_3 (nI o) vw vf (nI (dpo n K su py (n - o) B)) (nI K) s2 = _
      unfold bX4_leastBlock_3
      rw [g1, if_pos (nI_le (Nat.le_refl _) (by omega))])
  unfold fX4_leastBlock
  rw [eu]
  rcases hu with ⟨S', rfl, f, e⟩ | ⟨k, S', rfl, f, e⟩
  · exact ⟨S', by rw [e]; rfl, f⟩
  · exact ⟨S', by rw [e]; rfl, f⟩
end FILL
