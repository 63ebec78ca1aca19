/-! loops, gets of puts, small rows -/
theorem lp_invA {σ ρ : Type} {body : σ → Option (σ ⊕ ρ)} (I : Nat → σ → Prop) (Q : ρ → Prop) (N : Nat)
    (hs : ∀ i s, i < N → I i s → (∃ s', body s = some (.inl s') ∧ I (i + 1) s') ∨ (∃ r, body s = some (.inr r) ∧ Q r))
    (he : ∀ s, I N s → ∃ r, body s = some (.inr r) ∧ Q r) :
    ∀ (m i : Nat) (s : σ), i ≤ N → N < i + m → I i s → ∃ r, lp body m s = some r ∧ Q r := by
  intro m
  induction m with
  | zero => intro i s h1 h2; omega
  | succ m ih =>
    intro i s h1 h2 hI
    have stop : (∃ r, body s = some (.inr r) ∧ Q r) → ∃ r, lp body (m + 1) s = some r ∧ Q r := by
      intro ⟨r, hb, hq⟩
      exact ⟨r, by simp [lp, hb], hq⟩
    by_cases h : i < N
    · rcases hs i s h hI with ⟨s', hb, hI'⟩ | h'
      · obtain ⟨r, hr, hq⟩ := ih (i + 1) s' (by omega) (by omega) hI'
        exact ⟨r, by simp [lp, hb, hr], hq⟩
      · exact stop h'
    · have e : i = N := by omega
      subst e
      exact stop (he s hI)
/-- a loop by an invariant: N rounds at most -/
theorem lp_inv {σ ρ : Type} {body : σ → Option (σ ⊕ ρ)} (I : Nat → σ → Prop) (Q : ρ → Prop) (N : Nat) {m : Nat} {s : σ} (hm : N < m) (h0 : I 0 s)
    (hs : ∀ i s, i < N → I i s → (∃ s', body s = some (.inl s') ∧ I (i + 1) s') ∨ (∃ r, body s = some (.inr r) ∧ Q r))
    (he : ∀ s, I N s → ∃ r, body s = some (.inr r) ∧ Q r) : ∃ r, lp body m s = some r ∧ Q r :=
  lp_invA I Q N hs he m 0 s (by omega) (by omega) h0
/-- a loop whose states are told -/
theorem lp_seq {σ ρ : Type} {body : σ → Option (σ ⊕ ρ)} (f : Nat → σ) (N : Nat) {m : Nat} {r : ρ} (hm : N < m)
    (hs : ∀ i, i < N → body (f i) = some (.inl (f (i + 1)))) (he : body (f N) = some (.inr r)) : lp body m (f 0) = some r := by
  obtain ⟨r', h, e⟩ := lp_inv (body := body) (fun i s => s = f i) (fun x => x = r) N (m := m) (s := f 0) hm rfl
    (fun i s hi h => Or.inl ⟨f (i + 1), by rw [h]; exact hs i hi, rfl⟩) (fun s h => ⟨r, by rw [h]; exact he, rfl⟩)
  rw [h, e]
theorem lp_seq' {σ ρ : Type} {body : σ → Option (σ ⊕ ρ)} (f : Nat → σ) (N : Nat) {m : Nat} {r : ρ} {s : σ} (h0 : s = f 0) (hm : N < m)
    (hs : ∀ i, i < N → body (f i) = some (.inl (f (i + 1)))) (he : body (f N) = some (.inr r)) : lp body m s = some r := by
  rw [h0]; exact lp_seq f N hm hs he
/-- a loop with a measure -/
theorem lp_mu {σ ρ : Type} {body : σ → Option (σ ⊕ ρ)} (I : σ → Prop) (Q : ρ → Prop) (μ : σ → Nat)
    (hs : ∀ s, I s → (∃ s', body s = some (.inl s') ∧ I s' ∧ μ s' < μ s) ∨ (∃ r, body s = some (.inr r) ∧ Q r)) :
    ∀ (m : Nat) (s : σ), μ s < m → I s → ∃ r, lp body m s = some r ∧ Q r := by
  intro m
  induction m with
  | zero => intro s h; omega
  | succ m ih =>
    intro s h hI
    rcases hs s hI with ⟨s', hb, hI', hm⟩ | ⟨r, hb, hq⟩
    · obtain ⟨r, hr, hq⟩ := ih s' (by omega) hI'
      exact ⟨r, by simp [lp, hb, hr], hq⟩
    · exact ⟨r, by simp [lp, hb], hq⟩
theorem b1_s {α β : Type} (a : α) (f : α → Option β) : b1 (some a) f = f a := rfl
theorem bs_l {α β γ : Type} (a : α) (f : α → Option γ) (g : β → Option γ) : bs (some (Sum.inl a)) f g = f a := rfl
theorem bs_r {α β γ : Type} (b : β) (f : α → Option γ) (g : β → Option γ) : bs (some (Sum.inr b)) f g = g b := rfl
theorem oI_e (S : St) (k j : Nat) (v : Int32) : oI_ S k j v = some (pI_ S k j v) := rfl
theorem oL_e (S : St) (k j : Nat) (v : Int64) : oL_ S k j v = some (pL_ S k j v) := rfl
theorem oR_e (S : St) (k j : Nat) (v : Nat) : oR_ S k j v = some (pR_ S k j v) := rfl
theorem gI_pI (S : St) (k j : Nat) (v : Int32) (a b : Nat) : gI_ (pI_ S k j v) a b = if a = k ∧ b = j then v else gI_ S a b := by
  simp only [gI_, pI_, up2]; (by_cases h1 : a = k <;> by_cases h2 : b = j <;> simp [h1, h2])
theorem gI_pL (S : St) (k j : Nat) (v : Int64) (a b : Nat) : gI_ (pL_ S k j v) a b = gI_ S a b := rfl
theorem gI_pA (S : St) (k j : Nat) (v : Int32) (a b : Nat) : gI_ (pA_ S k j v) a b = gI_ S a b := rfl
theorem gI_pB (S : St) (k j : Nat) (v : Int64) (a b : Nat) : gI_ (pB_ S k j v) a b = gI_ S a b := rfl
theorem gI_pR (S : St) (k j : Nat) (v : Nat) (a b : Nat) : gI_ (pR_ S k j v) a b = gI_ S a b := rfl
theorem gI_pW (S : St) (k : Nat) (f : Nat → Int32) (a b : Nat) : gI_ (pW_ S k f) a b = gI_ S a b := rfl
theorem gL_pI (S : St) (k j : Nat) (v : Int32) (a b : Nat) : gL_ (pI_ S k j v) a b = gL_ S a b := rfl
theorem gL_pL (S : St) (k j : Nat) (v : Int64) (a b : Nat) : gL_ (pL_ S k j v) a b = if a = k ∧ b = j then v else gL_ S a b := by
  simp only [gL_, pL_, up2]; (by_cases h1 : a = k <;> by_cases h2 : b = j <;> simp [h1, h2])
theorem gL_pA (S : St) (k j : Nat) (v : Int32) (a b : Nat) : gL_ (pA_ S k j v) a b = gL_ S a b := rfl
theorem gL_pB (S : St) (k j : Nat) (v : Int64) (a b : Nat) : gL_ (pB_ S k j v) a b = gL_ S a b := rfl
theorem gL_pR (S : St) (k j : Nat) (v : Nat) (a b : Nat) : gL_ (pR_ S k j v) a b = gL_ S a b := rfl
theorem gL_pW (S : St) (k : Nat) (f : Nat → Int32) (a b : Nat) : gL_ (pW_ S k f) a b = gL_ S a b := rfl
theorem aI_pI (S : St) (k j : Nat) (v : Int32) (a b : Nat) : aI_ (pI_ S k j v) a b = aI_ S a b := rfl
theorem aI_pL (S : St) (k j : Nat) (v : Int64) (a b : Nat) : aI_ (pL_ S k j v) a b = aI_ S a b := rfl
theorem aI_pA (S : St) (k j : Nat) (v : Int32) (a b : Nat) : aI_ (pA_ S k j v) a b = if a = k ∧ b = j then v else aI_ S a b := by
  simp only [aI_, pA_, up2]; (by_cases h1 : a = k <;> by_cases h2 : b = j <;> simp [h1, h2])
theorem aI_pB (S : St) (k j : Nat) (v : Int64) (a b : Nat) : aI_ (pB_ S k j v) a b = aI_ S a b := rfl
theorem aI_pR (S : St) (k j : Nat) (v : Nat) (a b : Nat) : aI_ (pR_ S k j v) a b = aI_ S a b := rfl
theorem aI_pW (S : St) (k : Nat) (f : Nat → Int32) (a b : Nat) : aI_ (pW_ S k f) a b = if a = k then f b else aI_ S a b := by
  simp only [aI_, pW_]; split <;> rfl
theorem aL_pI (S : St) (k j : Nat) (v : Int32) (a b : Nat) : aL_ (pI_ S k j v) a b = aL_ S a b := rfl
theorem aL_pL (S : St) (k j : Nat) (v : Int64) (a b : Nat) : aL_ (pL_ S k j v) a b = aL_ S a b := rfl
theorem aL_pA (S : St) (k j : Nat) (v : Int32) (a b : Nat) : aL_ (pA_ S k j v) a b = aL_ S a b := rfl
theorem aL_pB (S : St) (k j : Nat) (v : Int64) (a b : Nat) : aL_ (pB_ S k j v) a b = if a = k ∧ b = j then v else aL_ S a b := by
  simp only [aL_, pB_, up2]; (by_cases h1 : a = k <;> by_cases h2 : b = j <;> simp [h1, h2])
theorem aL_pR (S : St) (k j : Nat) (v : Nat) (a b : Nat) : aL_ (pR_ S k j v) a b = aL_ S a b := rfl
theorem aL_pW (S : St) (k : Nat) (f : Nat → Int32) (a b : Nat) : aL_ (pW_ S k f) a b = aL_ S a b := rfl
theorem gR_pI (S : St) (k j : Nat) (v : Int32) (a b : Nat) : gR_ (pI_ S k j v) a b = gR_ S a b := rfl
theorem gR_pL (S : St) (k j : Nat) (v : Int64) (a b : Nat) : gR_ (pL_ S k j v) a b = gR_ S a b := rfl
theorem gR_pA (S : St) (k j : Nat) (v : Int32) (a b : Nat) : gR_ (pA_ S k j v) a b = gR_ S a b := rfl
theorem gR_pB (S : St) (k j : Nat) (v : Int64) (a b : Nat) : gR_ (pB_ S k j v) a b = gR_ S a b := rfl
theorem gR_pR (S : St) (k j : Nat) (v : Nat) (a b : Nat) : gR_ (pR_ S k j v) a b = if a = k ∧ b = j then v else gR_ S a b := by
  simp only [gR_, pR_, up2]; (by_cases h1 : a = k <;> by_cases h2 : b = j <;> simp [h1, h2])
theorem gR_pW (S : St) (k : Nat) (f : Nat → Int32) (a b : Nat) : gR_ (pW_ S k f) a b = gR_ S a b := rfl
theorem rI_n {S : St} {k n i : Nat} (h : i < n) (hn : n < 2 ^ 31) : rI_ S k n (nI i) = some (aI_ S k i) := by
  unfold rI_; rw [if_neg (nI_in h hn), nI_clamp (by omega)]
theorem rL_n {S : St} {k n i : Nat} (h : i < n) (hn : n < 2 ^ 31) : rL_ S k n (nI i) = some (aL_ S k i) := by
  unfold rL_; rw [if_neg (nI_in h hn), nI_clamp (by omega)]
theorem rR_n {g : Nat → Nat} {n i : Nat} (h : i < n) (hn : n < 2 ^ 31) : rR_ n g (nI i) = some (g i) := by
  unfold rR_; rw [if_neg (nI_in h hn), nI_clamp (by omega)]
theorem wI_n {S : St} {k n i : Nat} {v : Int32} (h : i < n) (hn : n < 2 ^ 31) : wI_ S k n (nI i) v = some (pA_ S k i v) := by
  unfold wI_; rw [if_neg (nI_in h hn), nI_clamp (by omega)]
theorem wZ_n {S : St} {k n i : Nat} {v : Int32} (h : i < n) (hn : n < 2 ^ 31) (hv : v = 0 ∨ v = 1) : wZ_ S k n (nI i) v = some (pA_ S k i v) := by
  unfold wZ_; rw [if_neg (nI_in h hn), nI_clamp (by omega)]
  rcases hv with rfl | rfl <;> rfl
theorem wL_n {S : St} {k n i : Nat} {v : Int64} (h : i < n) (hn : n < 2 ^ 31) : wL_ S k n (nI i) v = some (pB_ S k i v) := by
  unfold wL_; rw [if_neg (nI_in h hn), nI_clamp (by omega)]
theorem nI_mul (a b : Nat) : nI a * nI b = nI (a * b) := (Int32.ofNat_mul a b).symm
theorem nI_sub {a b : Nat} (h : b ≤ a) : nI a - nI b = nI (a - b) := (Int32.ofNat_sub a b h).symm
theorem nI_div {a b : Nat} (ha : a < 2 ^ 31) (hb : b < 2 ^ 31) : nI a / nI b = nI (a / b) := (Int32.ofNat_div ha hb).symm
theorem nI_m1 {a : Nat} (h : 1 ≤ a) : nI a + (-1) = nI (a - 1) := by
  obtain ⟨b, rfl⟩ : ∃ b, a = b + 1 := ⟨a - 1, by omega⟩
  rw [Nat.add_sub_cancel, ← nI_1]
  generalize nI b = x
  apply Int32.toBitVec_inj.mp
  show x.toBitVec + 1#32 + (-1#32) = x.toBitVec
  rw [BitVec.add_assoc]
  have e : 1#32 + -1#32 = 0#32 := by decide
  rw [e, BitVec.add_zero]
theorem within_e (S : St) (a b c : Int32) : fX11_within S a b c = some (if b ≤ a ∧ a ≤ c then 1 else 0) := by
  unfold fX11_within
  by_cases h : a < b
  · rw [if_pos h, if_neg (fun q => (fa_of_lt h).2.1 q.1)]
  · rw [if_neg h]
    by_cases h2 : c < a
    · rw [if_pos h2, if_neg (fun q => (fa_of_lt h2).2.1 q.2)]
    · rw [if_neg h2, if_pos ⟨fa_of_nlt h, fa_of_nlt h2⟩]
theorem in_e (S : St) (a b c : Int32) {B C : Int64} (hB : b.toInt64 = B) (hC : c.toInt64 = C) : fX12_in S a.toInt64 B C = some (if b ≤ a ∧ a ≤ c then 1 else 0) := by
  subst hB; subst hC
  unfold fX12_in
  simp only [lg_cmp_lt, lg_cmp_gt, fa_wide_lt]
  exact within_e S a b c
theorem in_nat {x : Int32} {n : Nat} (hn : n < 2 ^ 31) : (0 ≤ x ∧ x ≤ nI n - 1) ↔ ∃ i, i < n ∧ x = nI i := by
  constructor
  · intro ⟨h1, h2⟩
    rcases Nat.eq_zero_or_pos n with rfl | hp
    · exfalso
      have h3 : (0 : Int32) ≤ nI 0 - 1 := by
        rw [fa_le] at h1 h2 ⊢; omega
      exact absurd h3 (by decide)
    · have e : nI n - 1 = nI (n - 1) := nI_sub (b := 1) hp
      rw [e] at h2
      obtain ⟨j, hj, rfl⟩ := nI_of (x := x) (fun q => (fa_of_lt q).2.1 h1)
      exact ⟨j, by have := (nI_leI hj (by omega)).mp h2; omega, rfl⟩
  · intro ⟨i, hi, e⟩
    subst e
    refine ⟨nI_pos' (by omega), ?_⟩
    have e : nI n - 1 = nI (n - 1) := nI_sub (b := 1) (by omega)
    rw [e]
    exact nI_le (by omega) (by omega)
theorem in_rng {x : Int32} {a b : Nat} (hb : b < 2 ^ 31) : (nI a ≤ x ∧ x ≤ nI b) → a < 2 ^ 31 → ∃ i, a ≤ i ∧ i ≤ b ∧ x = nI i := by
  intro ⟨h1, h2⟩ ha
  obtain ⟨j, hj, rfl⟩ := nI_of (x := x) (fun q => by
    have h0 := nI_pos' ha
    rw [fa_lt] at q; rw [fa_le] at h1 h0
    have : (0 : Int32).toInt = 0 := rfl
    omega)
  exact ⟨j, (nI_leI ha hj).mp h1, (nI_leI hj hb).mp h2, rfl⟩
/-- all but what p names is as it was -/
def Fr (p : Nat → Nat → Bool) (S S' : St) : Prop := ∀ k j, p k j = false → gI_ S' k j = gI_ S k j ∧ gL_ S' k j = gL_ S k j ∧ aI_ S' k j = aI_ S k j ∧ aL_ S' k j = aL_ S k j ∧ gR_ S' k j = gR_ S k j
theorem Fr.refl (p : Nat → Nat → Bool) (S : St) : Fr p S S := fun _ _ _ => ⟨rfl, rfl, rfl, rfl, rfl⟩
theorem Fr.trans {p : Nat → Nat → Bool} {S S1 S2 : St} (h : Fr p S S1) (h2 : Fr p S1 S2) : Fr p S S2 := fun k j hp => by
  obtain ⟨a, b, c, d, e⟩ := h k j hp
  obtain ⟨a2, b2, c2, d2, e2⟩ := h2 k j hp
  exact ⟨a2.trans a, b2.trans b, c2.trans c, d2.trans d, e2.trans e⟩
theorem Fr.mono {p q : Nat → Nat → Bool} {S S1 : St} (h : Fr p S S1) (hm : ∀ k j, q k j = false → p k j = false) : Fr q S S1 := fun k j hp => h k j (hm k j hp)
theorem Fr.gI {p : Nat → Nat → Bool} {S S' : St} (h : Fr p S S') {k j : Nat} (hp : p k j = false) : gI_ S' k j = gI_ S k j := (h k j hp).1
theorem Fr.gL {p : Nat → Nat → Bool} {S S' : St} (h : Fr p S S') {k j : Nat} (hp : p k j = false) : gL_ S' k j = gL_ S k j := (h k j hp).2.1
theorem Fr.aI {p : Nat → Nat → Bool} {S S' : St} (h : Fr p S S') {k j : Nat} (hp : p k j = false) : aI_ S' k j = aI_ S k j := (h k j hp).2.2.1
theorem Fr.aL {p : Nat → Nat → Bool} {S S' : St} (h : Fr p S S') {k j : Nat} (hp : p k j = false) : aL_ S' k j = aL_ S k j := (h k j hp).2.2.2.1
theorem Fr.gR {p : Nat → Nat → Bool} {S S' : St} (h : Fr p S S') {k j : Nat} (hp : p k j = false) : gR_ S' k j = gR_ S k j := (h k j hp).2.2.2.2
theorem Fr.pI {p : Nat → Nat → Bool} {S S1 : St} {k j : Nat} {v : Int32} (hp : p k j = true) (h : Fr p S S1) : Fr p S (pI_ S1 k j v) := fun a b hab => by
  obtain ⟨x1, x2, x3, x4, x5⟩ := h a b hab
  refine ⟨?_, x2, x3, x4, x5⟩
  rw [gI_pI, if_neg (fun q => by rw [q.1, q.2, hp] at hab; cases hab)]
  exact x1
theorem Fr.pL {p : Nat → Nat → Bool} {S S1 : St} {k j : Nat} {v : Int64} (hp : p k j = true) (h : Fr p S S1) : Fr p S (pL_ S1 k j v) := fun a b hab => by
  obtain ⟨x1, x2, x3, x4, x5⟩ := h a b hab
  refine ⟨x1, ?_, x3, x4, x5⟩
  rw [gL_pL, if_neg (fun q => by rw [q.1, q.2, hp] at hab; cases hab)]
  exact x2
theorem Fr.pA {p : Nat → Nat → Bool} {S S1 : St} {k j : Nat} {v : Int32} (hp : p k j = true) (h : Fr p S S1) : Fr p S (pA_ S1 k j v) := fun a b hab => by
  obtain ⟨x1, x2, x3, x4, x5⟩ := h a b hab
  refine ⟨x1, x2, ?_, x4, x5⟩
  rw [aI_pA, if_neg (fun q => by rw [q.1, q.2, hp] at hab; cases hab)]
  exact x3
theorem Fr.pB {p : Nat → Nat → Bool} {S S1 : St} {k j : Nat} {v : Int64} (hp : p k j = true) (h : Fr p S S1) : Fr p S (pB_ S1 k j v) := fun a b hab => by
  obtain ⟨x1, x2, x3, x4, x5⟩ := h a b hab
  refine ⟨x1, x2, x3, ?_, x5⟩
  rw [aL_pB, if_neg (fun q => by rw [q.1, q.2, hp] at hab; cases hab)]
  exact x4
theorem Fr.pR {p : Nat → Nat → Bool} {S S1 : St} {k j v : Nat} (hp : p k j = true) (h : Fr p S S1) : Fr p S (pR_ S1 k j v) := fun a b hab => by
  obtain ⟨x1, x2, x3, x4, x5⟩ := h a b hab
  refine ⟨x1, x2, x3, x4, ?_⟩
  rw [gR_pR, if_neg (fun q => by rw [q.1, q.2, hp] at hab; cases hab)]
  exact x5
theorem Fr.pW {p : Nat → Nat → Bool} {S S1 : St} {k : Nat} {f : Nat → Int32} (hp : ∀ j, p k j = false → f j = aI_ S1 k j) (h : Fr p S S1) : Fr p S (pW_ S1 k f) := fun a b hab => by
  obtain ⟨x1, x2, x3, x4, x5⟩ := h a b hab
  refine ⟨x1, x2, ?_, x4, x5⟩
  rw [aI_pW]
  split
  · rename_i q; subst q; rw [hp b hab]; exact x3
  · exact x3
/-- bits of a long -/
def lt_ (x : Int64) (i : Nat) : Bool := x.toBitVec.getLsbD i
theorem l_ext {x y : Int64} (h : ∀ i, i < 64 → lt_ x i = lt_ y i) : x = y := Int64.toBitVec_inj.mp (BitVec.eq_of_getLsbD_eq (fun i hi => h i hi))
theorem l_or (x y : Int64) (i : Nat) : lt_ (x ||| y) i = (lt_ x i || lt_ y i) := by unfold lt_; rw [Int64.toBitVec_or, BitVec.getLsbD_or]
theorem l_and (x y : Int64) (i : Nat) : lt_ (x &&& y) i = (lt_ x i && lt_ y i) := by unfold lt_; rw [Int64.toBitVec_and, BitVec.getLsbD_and]
theorem l_xor (x y : Int64) (i : Nat) : lt_ (x ^^^ y) i = (lt_ x i ^^ lt_ y i) := by unfold lt_; rw [Int64.toBitVec_xor, BitVec.getLsbD_xor]
theorem l_m1 : ∀ i, i < 64 → lt_ (-1) i = true := by decide +kernel
theorem l_1 : ∀ i, i < 64 → lt_ 1 i = decide (i = 0) := by decide +kernel
theorem l_0 (i : Nat) : lt_ 0 i = false := BitVec.getLsbD_zero
theorem l_sm : ∀ n, n < 64 → (((nI n).toInt64 &&& 63).toBitVec.smod 64).toNat = n := by decide +kernel
theorem l_shl (n : Nat) (hn : n < 64) (x : Int64) {i : Nat} (hi : i < 64) : lt_ (x <<< ((nI n).toInt64 &&& 63)) i = (decide (n ≤ i) && lt_ x (i - n)) := by
  unfold lt_
  rw [Int64.toBitVec_shiftLeft]
  show (x.toBitVec <<< (((nI n).toInt64 &&& 63).toBitVec.smod 64).toNat).getLsbD i = _
  rw [l_sm n hn, BitVec.getLsbD_shiftLeft]
  rcases Nat.lt_or_ge i n with h | h
  · simp [h, Nat.not_le.mpr h]
  · simp [hi, h, Nat.not_lt.mpr h]
theorem l_sshr (n : Nat) (hn : n < 64) (x : Int64) {i : Nat} (hi : i < 64) : lt_ (x >>> ((nI n).toInt64 &&& 63)) i = if n + i < 64 then lt_ x (n + i) else lt_ x 63 := by
  unfold lt_
  rw [Int64.toBitVec_shiftRight]
  show (x.toBitVec.sshiftRight (((nI n).toInt64 &&& 63).toBitVec.smod 64).toNat).getLsbD i = _
  rw [l_sm n hn, BitVec.getLsbD_sshiftRight, BitVec.msb_eq_getLsbD_last]
  simp [hi]
theorem b_1 : ∀ i, i < 32 → bt 1 i = decide (i = 0) := by decide +kernel
theorem bit1_l {x : Int64} {n : Nat} (hn : n < 64) : ((x >>> ((nI n).toInt64 &&& 63)) &&& 1 : Int64) = if lt_ x n then 1 else 0 := by
  apply l_ext
  intro i hi
  rw [l_and, l_sshr n hn x hi, l_1 i hi]
  by_cases h0 : i = 0
  · subst h0; simp [hn]; cases lt_ x n <;> simp [l_1, l_0]
  · simp [h0]; cases lt_ x n <;> simp [l_1 i hi, l_0, h0]
theorem bit1_i {x : Int32} {n : Nat} (hn : n < 32) : ((x >>> (nI n &&& 31)) &&& 1 : Int32) = if bt x n then 1 else 0 := by
  apply b_ext
  intro i hi
  rw [b_and, b_sshr n hn x hi, b_1 i hi]
  by_cases h0 : i = 0
  · subst h0; simp [hn]; cases bt x n <;> simp [b_1, b_0]
  · simp [h0]; cases bt x n <;> simp [b_1 i hi, b_0, h0]
/-- a word with the bit n alone -/
theorem one_shl (n : Nat) (hn : n < 32) {i : Nat} (hi : i < 32) : bt ((1 : Int32) <<< (nI n &&& 31)) i = decide (i = n) := by
  rw [b_shl n hn 1 hi, b_1 (i - n) (by omega)]
  by_cases h : i = n
  · subst h; simp
  · by_cases h2 : n ≤ i
    · simp [h2, h]; omega
    · simp [h2, h]
theorem one_shlL (n : Nat) (hn : n < 64) {i : Nat} (hi : i < 64) : lt_ ((1 : Int64) <<< ((nI n).toInt64 &&& 63)) i = decide (i = n) := by
  rw [l_shl n hn 1 hi, l_1 (i - n) (by omega)]
  by_cases h : i = n
  · subst h; simp
  · by_cases h2 : n ≤ i
    · simp [h2, h]; omega
    · simp [h2, h]
