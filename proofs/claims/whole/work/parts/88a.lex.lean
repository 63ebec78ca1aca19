/-! the tape's tokens -/
def isD (b : Nat) : Bool := decide (48 ≤ b) && decide (b ≤ 57)
def isW (b : Nat) : Bool := decide (97 ≤ b) && decide (b ≤ 122)
def isC (b : Nat) : Bool := decide (65 ≤ b) && decide (b ≤ 72)
def isS (b : Nat) : Bool := decide (b = 32)
def run (p : Nat → Bool) (n i : Nat) : Nat := i + fa_first (fun k => !p (i + k)) (n - i)
theorem run_ge (p : Nat → Bool) (n i : Nat) : i ≤ run p n i := Nat.le_add_right _ _
theorem run_le {p : Nat → Bool} {n i : Nat} (h : i ≤ n) : run p n i ≤ n := by
  have := fa_first_le (fun k => !p (i + k)) (n - i)
  unfold run; omega
theorem run_in {p : Nat → Bool} {n i j : Nat} (h1 : i ≤ j) (h2 : j < run p n i) : p j = true := by
  have := fa_first_no (fun k => !p (i + k)) (n - i) (j - i) (by unfold run at h2; omega)
  simp only [show i + (j - i) = j by omega] at this
  cases q : p j
  · rw [q] at this; cases this
  · rfl
theorem run_out {p : Nat → Bool} {n i : Nat} (h : run p n i < n) : p (run p n i) = false := by
  have := fa_first_yes (fun k => !p (i + k)) (n - i) (by unfold run at h; omega)
  show p (i + fa_first (fun k => !p (i + k)) (n - i)) = false
  cases q : p (i + fa_first (fun k => !p (i + k)) (n - i))
  · rfl
  · simp only [q] at this; cases this
theorem run_uniq {p : Nat → Bool} {n i e : Nat} (h1 : i ≤ e) (h2 : e ≤ n) (h3 : ∀ j, i ≤ j → j < e → p j = true) (h4 : e < n → p e = false) : run p n i = e := by
  rcases Nat.lt_trichotomy (run p n i) e with q | q | q
  · have a := run_out (p := p) (n := n) (i := i) (by omega)
    rw [h3 _ (run_ge p n i) q] at a; cases a
  · exact q
  · have l := run_le (p := p) (n := n) (i := i) (by omega)
    have a := run_in (p := p) (n := n) h1 q
    rw [h4 (by omega)] at a; cases a
theorem run_stop {p : Nat → Bool} {n i : Nat} (h : i ≤ n) (hp : i < n → p i = false) : run p n i = i := run_uniq (Nat.le_refl _) h (fun j a b => by omega) hp
theorem run_go {p : Nat → Bool} {n i : Nat} (h : i < n) (hp : p i = true) : run p n i = run p n (i + 1) := by
  have g := run_ge p n (i + 1)
  refine run_uniq (by omega) (run_le (by omega)) (fun j a b => ?_) (fun q => run_out q)
  by_cases z : j = i
  · rw [z]; exact hp
  · exact run_in (n := n) (i := i + 1) (by omega) b
section LEX
variable (y : Nat → Nat) (n : Nat)
def tkE (i : Nat) : Nat := if isD (y i) then run (fun k => isD (y k)) n (i + 1) else if isW (y i) then run (fun k => isW (y k)) n (i + 1) else i + 1
def spl (ws : List Nat) (i e : Nat) : Bool := decide (e - i = ws.length) && decide (∀ k, k < ws.length → y (i + k) = ws.getD k 0)
def wIx (i e : Nat) : Option Nat :=
  if spl y [115, 116, 97, 109, 112] i e then some 0 else if spl y [98, 97, 114] i e then some 1 else if spl y [108, 105, 109, 105, 116] i e then some 2 else if spl y [108, 101, 97, 115, 116] i e then some 3 else if spl y [115, 101, 99, 111, 110, 100] i e then some 4 else none
def dvl (i : Nat) : Nat → Nat
  | 0 => 0
  | k + 1 => 10 * dvl i k + (y (i + k) - 48)
/-- a token: 0 the end, 1 wrong, 2 a letter, 3 a number, 4 ';', 5 + w a word -/
def tkK (i : Nat) : Nat := if isC (y i) then 2 else if isD (y i) then (if tkE y n i - i ≤ 4 then 3 else 1) else if isW (y i) then (match wIx y i (tkE y n i) with | some w => 5 + w | none => 1) else if y i = 59 then 4 else 1
def tkV (i : Nat) : Nat := if isC (y i) then y i - 65 else if isD (y i) then dvl y i (tkE y n i - i) else 0
def tst_ : Nat → Nat
  | 0 => run (fun k => isS (y k)) n 0
  | t + 1 => if tst_ t < n then run (fun k => isS (y k)) n (tkE y n (tst_ t)) else n
end LEX
theorem tkE_gt (y : Nat → Nat) (n i : Nat) : i < tkE y n i := by
  unfold tkE
  have a := run_ge (fun k => isD (y k)) n (i + 1)
  have b := run_ge (fun k => isW (y k)) n (i + 1)
  split
  · omega
  · split <;> omega
theorem tkE_le {y : Nat → Nat} {n i : Nat} (h : i < n) : tkE y n i ≤ n := by
  unfold tkE
  have a := run_le (p := fun k => isD (y k)) (n := n) (i := i + 1) (by omega)
  have b := run_le (p := fun k => isW (y k)) (n := n) (i := i + 1) (by omega)
  split
  · omega
  · split <;> omega
theorem tst_le (y : Nat → Nat) (n : Nat) : ∀ t, tst_ y n t ≤ n
  | 0 => run_le (Nat.zero_le _)
  | t + 1 => by
    unfold tst_
    split
    · rename_i h; exact run_le (tkE_le h)
    · exact Nat.le_refl _
theorem tst_up {y : Nat → Nat} {n t : Nat} (h : tst_ y n t < n) : tkE y n (tst_ y n t) ≤ tst_ y n (t + 1) := by
  show _ ≤ (if tst_ y n t < n then run (fun k => isS (y k)) n (tkE y n (tst_ y n t)) else n)
  rw [if_pos h]; exact run_ge _ _ _
/-! the class's rows of tokens -/
theorem byteIn {S : St} {b lo hi : Nat} (hb : b < 256) (hl : lo < 256) (hh : hi < 256) : fX11_within S (nI b) (nI lo) (nI hi) = some (zb (decide (lo ≤ b) && decide (b ≤ hi))) := by
  rw [within_e]
  by_cases c : lo ≤ b ∧ b ≤ hi
  · rw [if_pos ⟨nI_le c.1 (by omega), nI_le c.2 (by omega)⟩]; simp [c, zb]
  · rw [if_neg (fun q => c ⟨(nI_leI (by omega) (by omega)).mp q.1, (nI_leI (by omega) (by omega)).mp q.2⟩)]
    have : (decide (lo ≤ b) && decide (b ≤ hi)) = false := by
      cases q : (decide (lo ≤ b) && decide (b ≤ hi))
      · rfl
      · simp at q; exact absurd q c
    rw [this]; rfl
section LEXX
variable {S : St} {y : Nat → Nat} {n : Nat}
theorem wD (S : St) {b : Nat} (hb : b < 256) : fX11_within S (nI b) 48 57 = some (zb (isD b)) := byteIn (lo := 48) (hi := 57) hb (by omega) (by omega)
theorem wW (S : St) {b : Nat} (hb : b < 256) : fX11_within S (nI b) 97 122 = some (zb (isW b)) := byteIn (lo := 97) (hi := 122) hb (by omega) (by omega)
theorem wC (S : St) {b : Nat} (hb : b < 256) : fX11_within S (nI b) 65 72 = some (zb (isC b)) := byteIn (lo := 65) (hi := 72) hb (by omega) (by omega)
theorem zb0 : zb false = 0 := rfl
theorem zb1 : ¬ zb true = 0 := by decide
/-- a scan to the end of a run -/
theorem scan_x {body : Int32 → Option (Int32 ⊕ Int32)} {p : Nat → Bool} {i : Nat} (hn : n ≤ 200) (hi : i ≤ n) (h : ∀ j, j ≤ n → body (nI j) = if j < n ∧ p j = true then some (.inl (nI (j + 1))) else some (.inr (nI j))) : lp body 5000 (nI i) = some (nI (run p n i)) := by
  have g := run_ge p n i
  have l := run_le (p := p) hi
  refine lp_seq' (fun k => nI (i + k)) (run p n i - i) rfl (by omega) (fun k hk => ?_) ?_
  · rw [h _ (by omega), if_pos ⟨by omega, run_in (n := n) (i := i) (by omega) (by omega)⟩]; rfl
  · rw [show i + (run p n i - i) = run p n i by omega, h _ l, if_neg (fun q => by
      have := run_out q.1
      rw [q.2] at this; cases this)]
theorem end_x {i : Nat} (ht : Tap S 56 1 57 n y) (hn : n ≤ 200) (hb : ∀ i, i < n → y i < 256) (hi : i < n) : fX10_endOfToken S (nI i) = some (nI (tkE y n i)) := by
  have e1 : nI i + 1 = nI (i + 1) := nI_add _ 1
  have sD : lp (fun w33 : Int32 => bX10_endOfToken_20 S w33) 5000 (nI (i + 1)) = some (nI (run (fun k => isD (y k)) n (i + 1))) := scan_x hn (by omega) (fun j hj => by
    unfold bX10_endOfToken_20
    rw [ht.1]
    by_cases c : j < n
    · have ej : nI j + 1 = nI (j + 1) := nI_add _ 1
      rw [if_neg (nI_ge c (by omega)), rI_n (by omega) (by omega), b1_s, ht.2 j c, wD S (hb j c), b1_s]
      cases q : isD (y j)
      · rw [if_pos zb0, if_neg (fun z => by cases z.2)]
      · rw [if_neg zb1, if_pos ⟨c, rfl⟩, ej]
    · rw [if_pos (nI_le (by omega) (by omega)), if_neg (fun z => c z.1)])
  have sW : lp (fun w25 : Int32 => bX10_endOfToken_66 S w25) 5000 (nI (i + 1)) = some (nI (run (fun k => isW (y k)) n (i + 1))) := scan_x hn (by omega) (fun j hj => by
    unfold bX10_endOfToken_66
    rw [ht.1]
    by_cases c : j < n
    · have ej : nI j + 1 = nI (j + 1) := nI_add _ 1
      rw [if_neg (nI_ge c (by omega)), rI_n (by omega) (by omega), b1_s, ht.2 j c, wW S (hb j c), b1_s]
      cases q : isW (y j)
      · rw [if_pos zb0, if_neg (fun z => by cases z.2)]
      · rw [if_neg zb1, if_pos ⟨c, rfl⟩, ej]
    · rw [if_pos (nI_le (by omega) (by omega)), if_neg (fun z => c z.1)])
  unfold fX10_endOfToken tkE
  rw [rI_n (by omega) (by omega), b1_s, b1_s, ht.2 i hi, wD S (hb i hi), b1_s, e1]
  cases q : isD (y i)
  · rw [if_pos zb0, wW S (hb i hi), b1_s]
    cases q2 : isW (y i)
    · rw [if_pos zb0]; rfl
    · rw [if_neg zb1, sW]; rfl
  · have w0 : isW (y i) = false := by
      unfold isD at q
      unfold isW
      simp at q ⊢
      omega
    rw [if_neg zb1, sD, b1_s, b1_s, wW S (hb i hi), b1_s, w0, if_pos zb0]; rfl
theorem spell_x {k1 i e : Nat} {ws : List Nat} (ht : Tap S 56 1 57 n y) (hn : n ≤ 200) (hb : ∀ i, i < n → y i < 256) (hi : i < e) (he : e ≤ n) (hl : ws.length ≤ 6) (hs : slen_ k1 = some (nI ws.length)) (hc : ∀ k, k < ws.length → schar_ k1 (nI k) = some (nI (ws.getD k 0)) ∧ ws.getD k 0 < 256) : fX10_spells k1 S (nI i) (nI e) = some (zb (spl y ws i e)) := by
  unfold fX10_spells spl
  rw [hs, b1_s, nI_sub (by omega)]
  by_cases c : e - i = ws.length
  · rw [if_pos (congrArg nI c), decide_eq_true c, Bool.true_and]
    by_cases d : ∀ k, k < ws.length → y (i + k) = ws.getD k 0
    · have l : lp (fun w22 : Int32 => bX10_spells_15 k1 S (nI i) w22) 5000 0 = some (.inl ()) := lp_seq' (fun k => nI k) ws.length rfl (by omega) (fun k hk => by
        have ek : nI k + 1 = nI (k + 1) := nI_add _ 1
        show bX10_spells_15 k1 S (nI i) (nI k) = _
        unfold bX10_spells_15
        rw [hs, b1_s, if_neg (nI_ge hk (by omega)), nI_add, rI_n (by omega) (by omega), b1_s, (hc k hk).1, b1_s, ht.2 (i + k) (by omega), d k hk, if_pos rfl, ek]) (by
        show bX10_spells_15 k1 S (nI i) (nI ws.length) = _
        unfold bX10_spells_15
        rw [hs, b1_s, if_pos (nI_le (Nat.le_refl _) (by omega))])
      rw [l, decide_eq_true d]; rfl
    · obtain ⟨r, e', rfl⟩ := lp_inv (body := fun w22 : Int32 => bX10_spells_15 k1 S (nI i) w22) (fun k s => s = nI k ∧ ∀ j, j < k → y (i + j) = ws.getD j 0) (fun r => r = .inr 0) ws.length (m := 5000) (s := 0) (by omega) ⟨rfl, fun j h => by omega⟩
        (by
          rintro k s hk ⟨rfl, h⟩
          have ek : nI k + 1 = nI (k + 1) := nI_add _ 1
          show (∃ s', bX10_spells_15 k1 S (nI i) (nI k) = _ ∧ _) ∨ (∃ r, bX10_spells_15 k1 S (nI i) (nI k) = _ ∧ _)
          unfold bX10_spells_15
          rw [hs, b1_s, if_neg (nI_ge hk (by omega)), nI_add, rI_n (by omega) (by omega), b1_s, (hc k hk).1, b1_s, ht.2 (i + k) (by omega)]
          have b1' := hb (i + k) (by omega)
          have b2' := (hc k hk).2
          by_cases q : y (i + k) = ws.getD k 0
          · rw [if_pos (congrArg nI q), ek]
            refine Or.inl ⟨_, rfl, rfl, fun j hj => ?_⟩
            by_cases z : j = k
            · rw [z]; exact q
            · exact h j (by omega)
          · rw [if_neg (fun z => q ((nI_eq (by omega) (by omega)).mp z))]
            exact Or.inr ⟨_, rfl, rfl⟩)
        (by
          rintro s ⟨rfl, h⟩
          exact absurd h d)
      rw [e', decide_eq_false d]; rfl
  · rw [if_neg (fun z => c ((nI_eq (by omega) (by omega)).mp z)), decide_eq_false c]; rfl
theorem word_x {i e : Nat} (ht : Tap S 56 1 57 n y) (hn : n ≤ 200) (hb : ∀ i, i < n → y i < 256) (hi : i < e) (he : e ≤ n) : fX10_wordKind S (nI i) (nI e) = some (nI (match wIx y i e with | some w => 5 + w | none => 1)) := by
  have s0 := spell_x (k1 := 0) (ws := [115, 116, 97, 109, 112]) ht hn hb hi he (by decide) rfl (by decide +kernel)
  have s1 := spell_x (k1 := 1) (ws := [98, 97, 114]) ht hn hb hi he (by decide) rfl (by decide +kernel)
  have s2 := spell_x (k1 := 2) (ws := [108, 105, 109, 105, 116]) ht hn hb hi he (by decide) rfl (by decide +kernel)
  have s3 := spell_x (k1 := 3) (ws := [108, 101, 97, 115, 116]) ht hn hb hi he (by decide) rfl (by decide +kernel)
  have s4 := spell_x (k1 := 4) (ws := [115, 101, 99, 111, 110, 100]) ht hn hb hi he (by decide) rfl (by decide +kernel)
  unfold fX10_wordKind wIx
  rw [s0, b1_s]
  cases spl y [115, 116, 97, 109, 112] i e
  · rw [if_pos zb0, s1, b1_s]
    cases spl y [98, 97, 114] i e
    · rw [if_pos zb0, s2, b1_s]
      cases spl y [108, 105, 109, 105, 116] i e
      · rw [if_pos zb0, s3, b1_s]
        cases spl y [108, 101, 97, 115, 116] i e
        · rw [if_pos zb0, s4, b1_s]
          cases spl y [115, 101, 99, 111, 110, 100] i e
          · rw [if_pos zb0]; rfl
          · rw [if_neg zb1]; rfl
        · rw [if_neg zb1]; rfl
      · rw [if_neg zb1]; rfl
    · rw [if_neg zb1]; rfl
  · rw [if_neg zb1]; rfl
theorem kind_x {i : Nat} (ht : Tap S 56 1 57 n y) (hn : n ≤ 200) (hb : ∀ i, i < n → y i < 256) (hi : i < n) : fX10_kindOf S (nI i) (nI (tkE y n i)) = some (nI (tkK y n i)) := by
  have g := tkE_gt y n i
  have l := tkE_le (y := y) hi
  have w := word_x ht hn hb g l
  unfold fX10_kindOf tkK
  rw [rI_n (by omega) (by omega), b1_s, ht.2 i hi, wC S (hb i hi), b1_s, wD S (hb i hi), b1_s, wW S (hb i hi), b1_s, w, nI_sub (by omega)]
  cases isC (y i)
  · rw [if_pos zb0]
    cases isD (y i)
    · rw [if_pos zb0]
      cases isW (y i)
      · rw [if_pos zb0]
        have := hb i hi
        by_cases c : y i = 59
        · have c' : nI (y i) = (59 : Int32) := by rw [c]; rfl
          rw [if_pos c']; simp [c]; rfl
        · have c' : ¬ nI (y i) = (59 : Int32) := fun q => c ((nI_eq (b := 59) (by omega) (by omega)).mp q)
          rw [if_neg c']; simp [c]; rfl
      · rw [if_neg zb1]; rfl
    · rw [if_neg zb1]
      by_cases c : tkE y n i - i ≤ 4
      · have c' : nI (tkE y n i - i) ≤ (4 : Int32) := nI_le c (by decide)
        rw [if_pos c']; simp [c]; rfl
      · have c' : ¬ nI (tkE y n i - i) ≤ (4 : Int32) := nI_ge (show 4 < tkE y n i - i by omega) (by omega)
        rw [if_neg c']; simp [c]; rfl
  · rw [if_neg zb1]; rfl
theorem dvl_s (i k : Nat) (h : 48 ≤ y (i + k)) : nI (dvl y i k) * 10 + nI (y (i + k)) - 48 = nI (dvl y i (k + 1)) := by
  have a : nI (dvl y i k) * 10 = nI (dvl y i k * 10) := nI_mul _ 10
  rw [a, nI_add]
  have b : nI (dvl y i k * 10 + y (i + k)) - 48 = nI (dvl y i k * 10 + y (i + k) - 48) := nI_sub (b := 48) (by omega)
  rw [b]
  exact congrArg nI (by show _ = 10 * dvl y i k + (y (i + k) - 48); omega)
theorem val_x {i : Nat} (ht : Tap S 56 1 57 n y) (hn : n ≤ 200) (hb : ∀ i, i < n → y i < 256) (hi : i < n) : fX10_valueOf S (nI i) (nI (tkE y n i)) = some (nI (tkV y n i)) := by
  have g := tkE_gt y n i
  have l := tkE_le (y := y) hi
  unfold fX10_valueOf tkV
  rw [rI_n (by omega) (by omega), b1_s, b1_s, ht.2 i hi, wC S (hb i hi), b1_s]
  cases qc : isC (y i)
  · rw [if_pos zb0]
    cases qd : isD (y i)
    · have : lp (fun w23 : Int32 × Int32 => bX10_valueOf_31 S (nI (tkE y n i)) w23.1 w23.2) 5000 (0, nI i) = some 0 := lp_seq' (fun _ => (0, nI i)) 0 rfl (by omega) (fun k hk => by omega) (by
        show bX10_valueOf_31 S (nI (tkE y n i)) 0 (nI i) = _
        unfold bX10_valueOf_31
        rw [if_neg (nI_ge g (by omega)), rI_n (by omega) (by omega), b1_s, ht.2 i hi, wD S (hb i hi), b1_s, qd, if_pos zb0])
      rw [this]; rfl
    · have te : tkE y n i = run (fun k => isD (y k)) n (i + 1) := by unfold tkE; rw [qd]; rfl
      have dg : ∀ j, i ≤ j → j < tkE y n i → isD (y j) = true := fun j a b => by
        by_cases z : j = i
        · rw [z]; exact qd
        · rw [te] at b; exact run_in (p := fun k => isD (y k)) (n := n) (i := i + 1) (by omega) b
      have : lp (fun w23 : Int32 × Int32 => bX10_valueOf_31 S (nI (tkE y n i)) w23.1 w23.2) 5000 (0, nI i) = some (nI (dvl y i (tkE y n i - i))) := lp_seq' (fun k => (nI (dvl y i k), nI (i + k))) (tkE y n i - i) rfl (by omega) (fun k hk => by
        have ek : nI (i + k) + 1 = nI (i + (k + 1)) := nI_add _ 1
        have q := dg (i + k) (by omega) (by omega)
        have q48 : 48 ≤ y (i + k) := by unfold isD at q; simp at q; exact q.1
        show bX10_valueOf_31 S (nI (tkE y n i)) (nI (dvl y i k)) (nI (i + k)) = some (.inl (nI (dvl y i (k + 1)), nI (i + (k + 1))))
        unfold bX10_valueOf_31
        rw [if_neg (nI_ge (show i + k < tkE y n i by omega) (by omega)), rI_n (by omega) (by omega), b1_s, b1_s, ht.2 (i + k) (by omega), wD S (hb (i + k) (by omega)), b1_s, q, if_neg zb1, dvl_s i k q48, ek]) (by
        show bX10_valueOf_31 S (nI (tkE y n i)) (nI (dvl y i (tkE y n i - i))) (nI (i + (tkE y n i - i))) = _
        unfold bX10_valueOf_31
        rw [if_pos (nI_le (by omega) (by omega))])
      rw [this]; rfl
  · rw [if_neg zb1]
    have : 65 ≤ y i := by unfold isC at qc; simp at qc; exact qc.1
    exact congrArg some (nI_sub (b := 65) this)
end LEXX
