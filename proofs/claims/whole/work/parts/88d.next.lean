/-! the reference's next token, the whole -/
def lxT (S22 : St) : Option St :=
  b1 (fX12_look S22 (gI_ S22 0 37)) fun x23 => (if 0 ≤ x23 then b1 (fX12_in S22 ((x23 : Int32).toInt64) 97 122) fun x24 => (if x24 = 0 then b1 (fX12_in S22 ((x23 : Int32).toInt64) 65 72) fun x25 => (if x25 = 0 then b1 (fX12_in S22 ((x23 : Int32).toInt64) 48 57) fun x26 => (if x26 = 0 then b1 ((if x23 = 59 then some 1 else some 0) : Option (Int32)) fun w27 => b1 (fX12_wants S22 w27 1) fun S28 => b1 (oI_ S28 0 39 4) fun S29 => b1 (oI_ S29 0 37 ((gI_ S29 0 37) + 1)) fun S30 => some S30 else b1 (oI_ S22 0 39 3) fun S32 => b1 (oI_ S32 0 40 0) fun S33 => b1 (lp (fun w34 : St => bX12_next_202  w34) 5000 S33) fun u44 => b1 ((if 4 < (gI_ u44 0 37) - (gI_ u44 0 38) then some 0 else some 1) : Option (Int32)) fun w45 => b1 (fX12_wants u44 w45 1) fun S46 => some S46) else b1 (oI_ S22 0 39 2) fun S49 => b1 (oI_ S49 0 40 (x23 - 65)) fun S50 => b1 (oI_ S50 0 37 ((gI_ S50 0 37) + 1)) fun S51 => some S51) else b1 (oI_ S22 0 39 1) fun S53 => b1 (lp (fun w54 : St => bX12_next_74  w54) 5000 S53) fun u60 => b1 (fX12_wordNow u60) fun x61 => b1 (oI_ u60 0 40 x61) fun S62 => b1 ((if gI_ S62 0 40 = (-4) then some 0 else some 1) : Option (Int32)) fun w63 => b1 (fX12_wants S62 w63 1) fun S64 => some S64) else b1 (oI_ S22 0 39 0) fun S67 => some S67)
theorem next_e (S : St) : fX12_next S = b1 (fX12_look S (gI_ S 0 37)) fun x21 => (if x21 = 32 then b1 (oI_ S 0 37 ((gI_ S 0 37) + 1)) fun S69 => b1 (lp (fun w70 : St => bX12_next_0  w70) 5000 S69) fun u75 => b1 (oI_ u75 0 38 (gI_ u75 0 37)) fun S76 => lxT S76 else b1 (oI_ S 0 38 (gI_ S 0 37)) fun S22 => lxT S22) := rfl
def p37 (a b : Nat) : Bool := a == 0 && b == 37
def pLx (a b : Nat) : Bool := a == 0 && (decide (37 ≤ b) && decide (b ≤ 42))
section NEXT
variable {y : Nat → Nat} {n : Nat}
theorem scan_m {body : St → Option (St ⊕ St)} {p : Nat → Bool} {S : St} {i : Nat} (hn : n ≤ 200) (hi : i ≤ n) (g : gI_ S 0 37 = nI i) (h : ∀ S' j, Fr p37 S S' → gI_ S' 0 37 = nI j → j ≤ n → body S' = if j < n ∧ p j = true then some (.inl (pI_ S' 0 37 (nI (j + 1)))) else some (.inr S')) : ∃ S', lp body 5000 S = some S' ∧ Fr p37 S S' ∧ gI_ S' 0 37 = nI (run p n i) := by
  have ge := run_ge p n i
  have l := run_le (p := p) hi
  refine lp_inv (body := body) (fun k s => Fr p37 S s ∧ gI_ s 0 37 = nI (i + k)) (fun r => Fr p37 S r ∧ gI_ r 0 37 = nI (run p n i)) (run p n i - i) (by omega) ⟨Fr.refl _ _, g⟩ (fun k s hk ⟨a, b⟩ => ?_) (fun s ⟨a, b⟩ => ?_)
  · left
    refine ⟨pI_ s 0 37 (nI (i + k + 1)), ?_, Fr.pI rfl a, ?_⟩
    · rw [h s (i + k) a b (by omega), if_pos ⟨by omega, run_in (n := n) (i := i) (by omega) (by omega)⟩]
    · simp [gI_pI, gI_pL, gI_pA, gI_pB, gI_pR, gI_pW, gL_pI, gL_pL, gL_pA, gL_pB, gL_pR, gL_pW, aI_pI, aI_pL, aI_pA, aI_pB, aI_pR, aI_pW, aL_pI, aL_pL, aL_pA, aL_pB, aL_pR, aL_pW, gR_pI, gR_pL, gR_pA, gR_pB, gR_pR, gR_pW]; rfl
  · have e : i + (run p n i - i) = run p n i := by omega
    rw [e] at b
    refine ⟨s, ?_, a, b⟩
    rw [h s _ a b l, if_neg (fun q => by
      have := run_out q.1
      rw [q.2] at this; cases this)]
theorem wants1 (S : St) (v : Int32) : fX12_wants S 1 v = some S := rfl
theorem wants0 {S : St} {v : Int32} (h : gI_ S 0 41 = 0) : fX12_wants S 0 v = some (pI_ (pI_ S 0 41 v) 0 42 (gI_ S 0 38)) := by
  unfold fX12_wants
  rw [if_pos rfl, if_pos h]; rfl
/-- token s in hand, nothing else told -/
def LxR (y : Nat → Nat) (n s : Nat) (S' : St) : Prop :=
  gI_ S' 0 38 = nI s ∧ (s = n → gI_ S' 0 37 = nI n ∧ gI_ S' 0 39 = 0 ∧ gI_ S' 0 41 = 0) ∧ (s < n → gI_ S' 0 37 = nI (tkE y n s) ∧ ((tkK y n s = 1 ∧ gI_ S' 0 41 = 1 ∧ gI_ S' 0 42 = nI s) ∨ (gI_ S' 0 41 = 0 ∧ ((tkK y n s = 2 ∧ gI_ S' 0 39 = 2 ∧ gI_ S' 0 40 = nI (tkV y n s)) ∨ (tkK y n s = 3 ∧ gI_ S' 0 39 = 3 ∧ gI_ S' 0 40 = nI (tkV y n s)) ∨ (tkK y n s = 4 ∧ gI_ S' 0 39 = 4) ∨ ∃ w, w < 5 ∧ tkK y n s = 5 + w ∧ gI_ S' 0 39 = 1 ∧ gI_ S' 0 40 = nI w))))
theorem wIx_lt {s t w : Nat} (h : wIx y s t = some w) : w < 5 := by
  unfold wIx at h
  repeat' split at h
  all_goals first | (obtain rfl := Option.some.inj h; omega) | cases h
theorem lx_end {S : St} (ht : Tap S 0 36 28 n y) (hn : n ≤ 200) (g1 : gI_ S 0 37 = nI n) (g2 : gI_ S 0 38 = nI n) (g3 : gI_ S 0 41 = 0) : ∃ S', lxT S = some S' ∧ Fr pLx S S' ∧ LxR y n n S' := by
  refine ⟨pI_ S 0 39 0, ?_, Fr.pI rfl (Fr.refl _ _), ?_, fun _ => ⟨?_, ?_, ?_⟩, fun h => by omega⟩
  · unfold lxT
    rw [g1, look_m ht hn (by omega), if_neg (by omega), b1_s, if_neg (by decide : ¬ (0 : Int32) ≤ -1)]; rfl
  · simp only [gI_pI, gI_pL, gI_pA, gI_pB, gI_pR, gI_pW, gL_pI, gL_pL, gL_pA, gL_pB, gL_pR, gL_pW, aI_pI, aI_pL, aI_pA, aI_pB, aI_pR, aI_pW, aL_pI, aL_pL, aL_pA, aL_pB, aL_pR, aL_pW, gR_pI, gR_pL, gR_pA, gR_pB, gR_pR, gR_pW]; simpa using g2
  · simp only [gI_pI, gI_pL, gI_pA, gI_pB, gI_pR, gI_pW, gL_pI, gL_pL, gL_pA, gL_pB, gL_pR, gL_pW, aI_pI, aI_pL, aI_pA, aI_pB, aI_pR, aI_pW, aL_pI, aL_pL, aL_pA, aL_pB, aL_pR, aL_pW, gR_pI, gR_pL, gR_pA, gR_pB, gR_pR, gR_pW]; simpa using g1
  · simp [gI_pI, gI_pL, gI_pA, gI_pB, gI_pR, gI_pW, gL_pI, gL_pL, gL_pA, gL_pB, gL_pR, gL_pW, aI_pI, aI_pL, aI_pA, aI_pB, aI_pR, aI_pW, aL_pI, aL_pL, aL_pA, aL_pB, aL_pR, aL_pW, gR_pI, gR_pL, gR_pA, gR_pB, gR_pR, gR_pW]
  · simp only [gI_pI, gI_pL, gI_pA, gI_pB, gI_pR, gI_pW, gL_pI, gL_pL, gL_pA, gL_pB, gL_pR, gL_pW, aI_pI, aI_pL, aI_pA, aI_pB, aI_pR, aI_pW, aL_pI, aL_pL, aL_pA, aL_pB, aL_pR, aL_pW, gR_pI, gR_pL, gR_pA, gR_pB, gR_pR, gR_pW]; simpa using g3
theorem lx_word {S : St} {s : Nat} (ht : Tap S 0 36 28 n y) (hn : n ≤ 200) (hy : ∀ i, i < n → y i < 256) (hs : s < n) (g1 : gI_ S 0 37 = nI s) (g2 : gI_ S 0 38 = nI s) (g3 : gI_ S 0 41 = 0) (hw : isW (y s) = true) : ∃ S', lxT S = some S' ∧ Fr pLx S S' ∧ LxR y n s S' := by
  have bs' := hy s hs
  have p0 : (0 : Int32) ≤ nI (y s) := nI_le (Nat.zero_le _) (by omega)
  have nD : isD (y s) = false := by unfold isW at hw; unfold isD; simp at hw ⊢; omega
  have nC : isC (y s) = false := by unfold isW at hw; unfold isC; simp at hw ⊢; omega
  have te : tkE y n s = run (fun k => isW (y k)) n s := by
    unfold tkE; rw [nD, hw]; exact (run_go (p := fun k => isW (y k)) hs hw).symm
  have ge := tkE_gt y n s
  have le := tkE_le (y := y) hs
  obtain ⟨u, eu, fu, gu⟩ := scan_m (body := fun w54 : St => bX12_next_74  w54) (p := fun k => isW (y k)) (S := pI_ S 0 39 1) (i := s) hn (by omega) (by simp only [gI_pI, gI_pL, gI_pA, gI_pB, gI_pR, gI_pW, gL_pI, gL_pL, gL_pA, gL_pB, gL_pR, gL_pW, aI_pI, aI_pL, aI_pA, aI_pB, aI_pR, aI_pW, aL_pI, aL_pL, aL_pA, aL_pB, aL_pR, aL_pW, gR_pI, gR_pL, gR_pA, gR_pB, gR_pR, gR_pW]; simpa using g1) (fun S' j f gj hj => by
    have ht' : Tap S' 0 36 28 n y := (ht.fr (Fr.pI (p := fun a b => a == 0 && b == 39) rfl (Fr.refl _ _)) rfl (fun j => rfl)).fr f rfl (fun j => rfl)
    have ej : nI j + 1 = nI (j + 1) := nI_add _ 1
    show bX12_next_74 S' = _
    unfold bX12_next_74
    rw [gj, look_m ht' hn (by omega), b1_s]
    by_cases c : j < n
    · rw [if_pos c, mW S' (hy j c), b1_s]
      cases q : isW (y j)
      · rw [if_pos zb0, if_neg (fun z => by cases z.2)]
      · rw [if_neg zb1, if_pos ⟨c, rfl⟩, oI_e, b1_s, ej]
    · rw [if_neg c, mWn S', b1_s, if_pos rfl, if_neg (fun z => c z.1)])
  rw [← te] at gu
  have u38 : gI_ u 0 38 = nI s := by rw [fu.gI rfl]; simp only [gI_pI, gI_pL, gI_pA, gI_pB, gI_pR, gI_pW, gL_pI, gL_pL, gL_pA, gL_pB, gL_pR, gL_pW, aI_pI, aI_pL, aI_pA, aI_pB, aI_pR, aI_pW, aL_pI, aL_pL, aL_pA, aL_pB, aL_pR, aL_pW, gR_pI, gR_pL, gR_pA, gR_pB, gR_pR, gR_pW]; simpa using g2
  have u41 : gI_ u 0 41 = 0 := by rw [fu.gI rfl]; simp only [gI_pI, gI_pL, gI_pA, gI_pB, gI_pR, gI_pW, gL_pI, gL_pL, gL_pA, gL_pB, gL_pR, gL_pW, aI_pI, aI_pL, aI_pA, aI_pB, aI_pR, aI_pW, aL_pI, aL_pL, aL_pA, aL_pB, aL_pR, aL_pW, gR_pI, gR_pL, gR_pA, gR_pB, gR_pR, gR_pW]; simpa using g3
  have u39 : gI_ u 0 39 = 1 := by rw [fu.gI rfl]; simp [gI_pI, gI_pL, gI_pA, gI_pB, gI_pR, gI_pW, gL_pI, gL_pL, gL_pA, gL_pB, gL_pR, gL_pW, aI_pI, aI_pL, aI_pA, aI_pB, aI_pR, aI_pW, aL_pI, aL_pL, aL_pA, aL_pB, aL_pR, aL_pW, gR_pI, gR_pL, gR_pA, gR_pB, gR_pR, gR_pW]
  have ht' : Tap u 0 36 28 n y := (ht.fr (Fr.pI (p := fun a b => a == 0 && b == 39) rfl (Fr.refl _ _)) rfl (fun j => rfl)).fr fu rfl (fun j => rfl)
  have ew := wnow_m ht' hn hy gu u38 (by omega) le
  have F : Fr pLx S u := (Fr.pI rfl (Fr.refl _ _)).trans (fu.mono (by intro a b q; simp [pLx, p37] at q ⊢; omega))
  have kk : tkK y n s = (match wIx y s (tkE y n s) with | some w => 5 + w | none => 1) := by unfold tkK; rw [nC, nD, hw]; rfl
  have start : lxT S = b1 ((if sv (wIx y s (tkE y n s)) = (-4) then some 0 else some 1) : Option (Int32)) fun w63 => b1 (fX12_wants (pI_ u 0 40 (sv (wIx y s (tkE y n s)))) w63 1) fun S64 => some S64 := by
    unfold lxT
    rw [g1, look_m ht hn (by omega), if_pos hs, b1_s, if_pos p0, mW S bs', b1_s, hw, if_neg zb1, oI_e, b1_s, eu, b1_s, ew, b1_s, oI_e, b1_s]
    simp only [gI_pI, gI_pL, gI_pA, gI_pB, gI_pR, gI_pW, gL_pI, gL_pL, gL_pA, gL_pB, gL_pR, gL_pW, aI_pI, aI_pL, aI_pA, aI_pB, aI_pR, aI_pW, aL_pI, aL_pL, aL_pA, aL_pB, aL_pR, aL_pW, gR_pI, gR_pL, gR_pA, gR_pB, gR_pR, gR_pW, and_self, if_true]
  have v41 : ∀ v, gI_ (pI_ u 0 40 v) 0 41 = 0 := fun v => by simp only [gI_pI, gI_pL, gI_pA, gI_pB, gI_pR, gI_pW, gL_pI, gL_pL, gL_pA, gL_pB, gL_pR, gL_pW, aI_pI, aI_pL, aI_pA, aI_pB, aI_pR, aI_pW, aL_pI, aL_pL, aL_pA, aL_pB, aL_pR, aL_pW, gR_pI, gR_pL, gR_pA, gR_pB, gR_pR, gR_pW]; simpa using u41
  have v38 : ∀ v, gI_ (pI_ u 0 40 v) 0 38 = nI s := fun v => by simp only [gI_pI, gI_pL, gI_pA, gI_pB, gI_pR, gI_pW, gL_pI, gL_pL, gL_pA, gL_pB, gL_pR, gL_pW, aI_pI, aI_pL, aI_pA, aI_pB, aI_pR, aI_pW, aL_pI, aL_pL, aL_pA, aL_pB, aL_pR, aL_pW, gR_pI, gR_pL, gR_pA, gR_pB, gR_pR, gR_pW]; simpa using u38
  cases q : wIx y s (tkE y n s) with
  | none =>
    rw [q] at start kk
    have s4 : sv none = -4 := rfl
    rw [if_pos s4, b1_s, wants0 (v41 _), b1_s, v38] at start
    refine ⟨_, start, Fr.pI rfl (Fr.pI rfl (Fr.pI rfl F)), ?_, fun h => by omega, fun _ => ⟨?_, Or.inl ⟨kk, ?_, ?_⟩⟩⟩
    · simp only [gI_pI, gI_pL, gI_pA, gI_pB, gI_pR, gI_pW, gL_pI, gL_pL, gL_pA, gL_pB, gL_pR, gL_pW, aI_pI, aI_pL, aI_pA, aI_pB, aI_pR, aI_pW, aL_pI, aL_pL, aL_pA, aL_pB, aL_pR, aL_pW, gR_pI, gR_pL, gR_pA, gR_pB, gR_pR, gR_pW]; simpa using u38
    · simp only [gI_pI, gI_pL, gI_pA, gI_pB, gI_pR, gI_pW, gL_pI, gL_pL, gL_pA, gL_pB, gL_pR, gL_pW, aI_pI, aI_pL, aI_pA, aI_pB, aI_pR, aI_pW, aL_pI, aL_pL, aL_pA, aL_pB, aL_pR, aL_pW, gR_pI, gR_pL, gR_pA, gR_pB, gR_pR, gR_pW]; simpa using gu
    · simp [gI_pI, gI_pL, gI_pA, gI_pB, gI_pR, gI_pW, gL_pI, gL_pL, gL_pA, gL_pB, gL_pR, gL_pW, aI_pI, aI_pL, aI_pA, aI_pB, aI_pR, aI_pW, aL_pI, aL_pL, aL_pA, aL_pB, aL_pR, aL_pW, gR_pI, gR_pL, gR_pA, gR_pB, gR_pR, gR_pW]
    · simp [gI_pI, gI_pL, gI_pA, gI_pB, gI_pR, gI_pW, gL_pI, gL_pL, gL_pA, gL_pB, gL_pR, gL_pW, aI_pI, aI_pL, aI_pA, aI_pB, aI_pR, aI_pW, aL_pI, aL_pL, aL_pA, aL_pB, aL_pR, aL_pW, gR_pI, gR_pL, gR_pA, gR_pB, gR_pR, gR_pW]
  | some w =>
    rw [q] at start kk
    have w5 := wIx_lt q
    have s4 : ¬ sv (some w) = -4 := fun z => (m4_ne (a := w) (by omega)).mp z
    rw [if_neg s4, b1_s, wants1, b1_s] at start
    refine ⟨_, start, Fr.pI rfl F, v38 _, fun h => by omega, fun _ => ⟨?_, Or.inr ⟨v41 _, Or.inr (Or.inr (Or.inr ⟨w, w5, kk, ?_, ?_⟩))⟩⟩⟩
    · simp only [gI_pI, gI_pL, gI_pA, gI_pB, gI_pR, gI_pW, gL_pI, gL_pL, gL_pA, gL_pB, gL_pR, gL_pW, aI_pI, aI_pL, aI_pA, aI_pB, aI_pR, aI_pW, aL_pI, aL_pL, aL_pA, aL_pB, aL_pR, aL_pW, gR_pI, gR_pL, gR_pA, gR_pB, gR_pR, gR_pW]; simpa using gu
    · simp only [gI_pI, gI_pL, gI_pA, gI_pB, gI_pR, gI_pW, gL_pI, gL_pL, gL_pA, gL_pB, gL_pR, gL_pW, aI_pI, aI_pL, aI_pA, aI_pB, aI_pR, aI_pW, aL_pI, aL_pL, aL_pA, aL_pB, aL_pR, aL_pW, gR_pI, gR_pL, gR_pA, gR_pB, gR_pR, gR_pW]; simpa using u39
    · simp [gI_pI, gI_pL, gI_pA, gI_pB, gI_pR, gI_pW, gL_pI, gL_pL, gL_pA, gL_pB, gL_pR, gL_pW, aI_pI, aI_pL, aI_pA, aI_pB, aI_pR, aI_pW, aL_pI, aL_pL, aL_pA, aL_pB, aL_pR, aL_pW, gR_pI, gR_pL, gR_pA, gR_pB, gR_pR, gR_pW]; rfl
theorem lx_num {S : St} {s : Nat} (ht : Tap S 0 36 28 n y) (hn : n ≤ 200) (hy : ∀ i, i < n → y i < 256) (hs : s < n) (g1 : gI_ S 0 37 = nI s) (g2 : gI_ S 0 38 = nI s) (g3 : gI_ S 0 41 = 0) (hd : isD (y s) = true) : ∃ S', lxT S = some S' ∧ Fr pLx S S' ∧ LxR y n s S' := by
  have bs' := hy s hs
  have p0 : (0 : Int32) ≤ nI (y s) := nI_le (Nat.zero_le _) (by omega)
  have nW : isW (y s) = false := by unfold isD at hd; unfold isW; simp at hd ⊢; omega
  have nC : isC (y s) = false := by unfold isD at hd; unfold isC; simp at hd ⊢; omega
  have te : tkE y n s = run (fun k => isD (y k)) n s := by
    unfold tkE; rw [hd]; exact (run_go (p := fun k => isD (y k)) hs hd).symm
  have ge := tkE_gt y n s
  have le := tkE_le (y := y) hs
  have dg : ∀ j, s ≤ j → j < tkE y n s → isD (y j) = true := fun j a b => by
    rw [te] at b; exact run_in (p := fun k => isD (y k)) (n := n) (i := s) a b
  have dz : tkE y n s < n → isD (y (tkE y n s)) = false := fun q => by
    rw [te] at q ⊢; exact run_out (p := fun k => isD (y k)) q
  obtain ⟨u, eu, fu, gu, vu⟩ := lp_inv (body := fun w34 : St => bX12_next_202  w34) (fun k s' => Fr (fun a b => a == 0 && (b == 37 || b == 40)) (pI_ (pI_ S 0 39 3) 0 40 0) s' ∧ gI_ s' 0 37 = nI (s + k) ∧ gI_ s' 0 40 = nI (dvl y s (min k 4))) (fun r => Fr (fun a b => a == 0 && (b == 37 || b == 40)) (pI_ (pI_ S 0 39 3) 0 40 0) r ∧ gI_ r 0 37 = nI (tkE y n s) ∧ gI_ r 0 40 = nI (dvl y s (min (tkE y n s - s) 4))) (tkE y n s - s) (m := 5000) (s := pI_ (pI_ S 0 39 3) 0 40 0) (by omega) ⟨Fr.refl _ _, by simp only [gI_pI, gI_pL, gI_pA, gI_pB, gI_pR, gI_pW, gL_pI, gL_pL, gL_pA, gL_pB, gL_pR, gL_pW, aI_pI, aI_pL, aI_pA, aI_pB, aI_pR, aI_pW, aL_pI, aL_pL, aL_pA, aL_pB, aL_pR, aL_pW, gR_pI, gR_pL, gR_pA, gR_pB, gR_pR, gR_pW]; simpa using g1, by simp [gI_pI, gI_pL, gI_pA, gI_pB, gI_pR, gI_pW, gL_pI, gL_pL, gL_pA, gL_pB, gL_pR, gL_pW, aI_pI, aI_pL, aI_pA, aI_pB, aI_pR, aI_pW, aL_pI, aL_pL, aL_pA, aL_pB, aL_pR, aL_pW, gR_pI, gR_pL, gR_pA, gR_pB, gR_pR, gR_pW]; rfl⟩
    (by
      rintro k s' hk ⟨a1, a2, a3⟩
      have ht' : Tap s' 0 36 28 n y := (ht.fr (Fr.pI (p := fun a b => a == 0 && (b == 39 || b == 40)) rfl (Fr.pI rfl (Fr.refl _ _))) rfl (fun j => rfl)).fr a1 rfl (fun j => rfl)
      have s38 : gI_ s' 0 38 = nI s := by rw [a1.gI rfl]; simp only [gI_pI, gI_pL, gI_pA, gI_pB, gI_pR, gI_pW, gL_pI, gL_pL, gL_pA, gL_pB, gL_pR, gL_pW, aI_pI, aI_pL, aI_pA, aI_pB, aI_pR, aI_pW, aL_pI, aL_pL, aL_pA, aL_pB, aL_pR, aL_pW, gR_pI, gR_pL, gR_pA, gR_pB, gR_pR, gR_pW]; simpa using g2
      have q := dg (s + k) (by omega) (by omega)
      have q48 : 48 ≤ y (s + k) := by unfold isD at q; simp at q; exact q.1
      have ek : nI (s + k) + 1 = nI (s + (k + 1)) := nI_add _ 1
      have m10 : (10 : Int32) * nI (dvl y s k) = nI (dvl y s k) * 10 := Int32.mul_comm _ _
      left
      show ∃ s'', bX12_next_202 s' = _ ∧ _
      unfold bX12_next_202
      rw [a2, look_m ht' hn (by omega), b1_s, if_pos (by omega), mD s' (hy (s + k) (by omega)), b1_s, q, if_neg zb1, s38, nI_sub (by omega), Nat.add_sub_cancel_left, b1_s, a3]
      by_cases c : 4 ≤ k
      · have c' : (4 : Int32) ≤ nI k := nI_le c (by omega)
        rw [if_pos c', b1_s, oI_e, b1_s, oI_e, b1_s]
        refine ⟨_, rfl, Fr.pI rfl (Fr.pI rfl a1), ?_, ?_⟩
        · simp only [gI_pI, gI_pL, gI_pA, gI_pB, gI_pR, gI_pW, gL_pI, gL_pL, gL_pA, gL_pB, gL_pR, gL_pW, aI_pI, aI_pL, aI_pA, aI_pB, aI_pR, aI_pW, aL_pI, aL_pL, aL_pA, aL_pB, aL_pR, aL_pW, gR_pI, gR_pL, gR_pA, gR_pB, gR_pR, gR_pW, and_self, if_true]
          rw [if_neg (by omega), a2]; exact ek
        · simp only [gI_pI, gI_pL, gI_pA, gI_pB, gI_pR, gI_pW, gL_pI, gL_pL, gL_pA, gL_pB, gL_pR, gL_pW, aI_pI, aI_pL, aI_pA, aI_pB, aI_pR, aI_pW, aL_pI, aL_pL, aL_pA, aL_pB, aL_pR, aL_pW, gR_pI, gR_pL, gR_pA, gR_pB, gR_pR, gR_pW, and_self, if_true]
          rw [if_neg (by omega)]
          exact congrArg nI (by rw [Nat.min_eq_right c, Nat.min_eq_right (by omega)])
      · have c' : ¬ (4 : Int32) ≤ nI k := nI_ge (show k < 4 by omega) (by decide)
        rw [if_neg c', b1_s, oI_e, b1_s, oI_e, b1_s]
        refine ⟨_, rfl, Fr.pI rfl (Fr.pI rfl a1), ?_, ?_⟩
        · simp only [gI_pI, gI_pL, gI_pA, gI_pB, gI_pR, gI_pW, gL_pI, gL_pL, gL_pA, gL_pB, gL_pR, gL_pW, aI_pI, aI_pL, aI_pA, aI_pB, aI_pR, aI_pW, aL_pI, aL_pL, aL_pA, aL_pB, aL_pR, aL_pW, gR_pI, gR_pL, gR_pA, gR_pB, gR_pR, gR_pW, and_self, if_true]
          rw [if_neg (by omega), a2]; exact ek
        · simp only [gI_pI, gI_pL, gI_pA, gI_pB, gI_pR, gI_pW, gL_pI, gL_pL, gL_pA, gL_pB, gL_pR, gL_pW, aI_pI, aI_pL, aI_pA, aI_pB, aI_pR, aI_pW, aL_pI, aL_pL, aL_pA, aL_pB, aL_pR, aL_pW, gR_pI, gR_pL, gR_pA, gR_pB, gR_pR, gR_pW, and_self, if_true]
          rw [if_neg (by omega), Nat.min_eq_left (by omega), Nat.min_eq_left (by omega), m10]
          exact dvl_s s k q48)
    (by
      rintro s' ⟨a1, a2, a3⟩
      have ht' : Tap s' 0 36 28 n y := (ht.fr (Fr.pI (p := fun a b => a == 0 && (b == 39 || b == 40)) rfl (Fr.pI rfl (Fr.refl _ _))) rfl (fun j => rfl)).fr a1 rfl (fun j => rfl)
      have e : s + (tkE y n s - s) = tkE y n s := by omega
      rw [e] at a2
      refine ⟨s', ?_, a1, a2, a3⟩
      show bX12_next_202 s' = _
      unfold bX12_next_202
      rw [a2, look_m ht' hn (by omega), b1_s]
      by_cases c : tkE y n s < n
      · rw [if_pos c, mD s' (hy _ c), b1_s, dz c, if_pos zb0]
      · rw [if_neg c, mDn s', b1_s, if_pos rfl])
  have u38 : gI_ u 0 38 = nI s := by rw [fu.gI rfl]; simp only [gI_pI, gI_pL, gI_pA, gI_pB, gI_pR, gI_pW, gL_pI, gL_pL, gL_pA, gL_pB, gL_pR, gL_pW, aI_pI, aI_pL, aI_pA, aI_pB, aI_pR, aI_pW, aL_pI, aL_pL, aL_pA, aL_pB, aL_pR, aL_pW, gR_pI, gR_pL, gR_pA, gR_pB, gR_pR, gR_pW]; simpa using g2
  have u41 : gI_ u 0 41 = 0 := by rw [fu.gI rfl]; simp only [gI_pI, gI_pL, gI_pA, gI_pB, gI_pR, gI_pW, gL_pI, gL_pL, gL_pA, gL_pB, gL_pR, gL_pW, aI_pI, aI_pL, aI_pA, aI_pB, aI_pR, aI_pW, aL_pI, aL_pL, aL_pA, aL_pB, aL_pR, aL_pW, gR_pI, gR_pL, gR_pA, gR_pB, gR_pR, gR_pW]; simpa using g3
  have u39 : gI_ u 0 39 = 3 := by rw [fu.gI rfl]; simp [gI_pI, gI_pL, gI_pA, gI_pB, gI_pR, gI_pW, gL_pI, gL_pL, gL_pA, gL_pB, gL_pR, gL_pW, aI_pI, aI_pL, aI_pA, aI_pB, aI_pR, aI_pW, aL_pI, aL_pL, aL_pA, aL_pB, aL_pR, aL_pW, gR_pI, gR_pL, gR_pA, gR_pB, gR_pR, gR_pW]
  have F : Fr pLx S u := (Fr.pI rfl (Fr.pI rfl (Fr.refl _ _))).trans (fu.mono (by intro a b q; simp [pLx] at q ⊢; omega))
  have kk : tkK y n s = if tkE y n s - s ≤ 4 then 3 else 1 := by unfold tkK; rw [nC, hd]; rfl
  have start : lxT S = b1 ((if 4 < nI (tkE y n s - s) then some 0 else some 1) : Option (Int32)) fun w45 => b1 (fX12_wants u w45 1) fun S46 => some S46 := by
    unfold lxT
    rw [g1, look_m ht hn (by omega), if_pos hs, b1_s, if_pos p0, mW S bs', b1_s, nW, if_pos zb0, mC S bs', b1_s, nC, if_pos zb0, mD S bs', b1_s, hd, if_neg zb1, oI_e, b1_s, oI_e, b1_s, eu, b1_s, gu, u38, nI_sub (by omega)]
  by_cases c : tkE y n s - s ≤ 4
  · have c' : ¬ (4 : Int32) < nI (tkE y n s - s) := fun q => by
      have := (nI_ltI (a := 4) (by omega) (by omega)).mp q
      omega
    rw [if_neg c', b1_s, wants1, b1_s] at start
    rw [if_pos c] at kk
    refine ⟨u, start, F, u38, fun h => by omega, fun _ => ⟨gu, Or.inr ⟨u41, Or.inr (Or.inl ⟨kk, u39, ?_⟩)⟩⟩⟩
    rw [vu, Nat.min_eq_left c]
    unfold tkV; rw [nC, hd]; rfl
  · have c' : (4 : Int32) < nI (tkE y n s - s) := (nI_ltI (a := 4) (by omega) (by omega)).mpr (by omega)
    rw [if_pos c', b1_s, wants0 u41, b1_s, u38] at start
    rw [if_neg c] at kk
    refine ⟨_, start, Fr.pI rfl (Fr.pI rfl F), ?_, fun h => by omega, fun _ => ⟨?_, Or.inl ⟨kk, ?_, ?_⟩⟩⟩
    · simp only [gI_pI, gI_pL, gI_pA, gI_pB, gI_pR, gI_pW, gL_pI, gL_pL, gL_pA, gL_pB, gL_pR, gL_pW, aI_pI, aI_pL, aI_pA, aI_pB, aI_pR, aI_pW, aL_pI, aL_pL, aL_pA, aL_pB, aL_pR, aL_pW, gR_pI, gR_pL, gR_pA, gR_pB, gR_pR, gR_pW]; simpa using u38
    · simp only [gI_pI, gI_pL, gI_pA, gI_pB, gI_pR, gI_pW, gL_pI, gL_pL, gL_pA, gL_pB, gL_pR, gL_pW, aI_pI, aI_pL, aI_pA, aI_pB, aI_pR, aI_pW, aL_pI, aL_pL, aL_pA, aL_pB, aL_pR, aL_pW, gR_pI, gR_pL, gR_pA, gR_pB, gR_pR, gR_pW]; simpa using gu
    · simp [gI_pI, gI_pL, gI_pA, gI_pB, gI_pR, gI_pW, gL_pI, gL_pL, gL_pA, gL_pB, gL_pR, gL_pW, aI_pI, aI_pL, aI_pA, aI_pB, aI_pR, aI_pW, aL_pI, aL_pL, aL_pA, aL_pB, aL_pR, aL_pW, gR_pI, gR_pL, gR_pA, gR_pB, gR_pR, gR_pW]
    · simp [gI_pI, gI_pL, gI_pA, gI_pB, gI_pR, gI_pW, gL_pI, gL_pL, gL_pA, gL_pB, gL_pR, gL_pW, aI_pI, aI_pL, aI_pA, aI_pB, aI_pR, aI_pW, aL_pI, aL_pL, aL_pA, aL_pB, aL_pR, aL_pW, gR_pI, gR_pL, gR_pA, gR_pB, gR_pR, gR_pW]
theorem lx_rest {S : St} {s : Nat} (ht : Tap S 0 36 28 n y) (hn : n ≤ 200) (hy : ∀ i, i < n → y i < 256) (hs : s < n) (g1 : gI_ S 0 37 = nI s) (g2 : gI_ S 0 38 = nI s) (g3 : gI_ S 0 41 = 0) (nW : isW (y s) = false) (nD : isD (y s) = false) : ∃ S', lxT S = some S' ∧ Fr pLx S S' ∧ LxR y n s S' := by
  have bs' := hy s hs
  have p0 : (0 : Int32) ≤ nI (y s) := nI_le (Nat.zero_le _) (by omega)
  have te : tkE y n s = s + 1 := by unfold tkE; rw [nD, nW]; rfl
  have e1 : nI s + 1 = nI (s + 1) := nI_add _ 1
  cases hc : isC (y s) with
  | true =>
    have q65 : 65 ≤ y s := by unfold isC at hc; simp at hc; exact hc.1
    have e65 : nI (y s) - 65 = nI (y s - 65) := nI_sub (b := 65) q65
    refine ⟨pI_ (pI_ (pI_ S 0 39 2) 0 40 (nI (y s - 65))) 0 37 (nI (s + 1)), ?_, Fr.pI rfl (Fr.pI rfl (Fr.pI rfl (Fr.refl _ _))), ?_, fun h => by omega, fun _ => ⟨?_, Or.inr ⟨?_, Or.inl ⟨?_, ?_, ?_⟩⟩⟩⟩
    · unfold lxT
      rw [g1, look_m ht hn (by omega), if_pos hs, b1_s, if_pos p0, mW S bs', b1_s, nW, if_pos zb0, mC S bs', b1_s, hc, if_neg zb1, oI_e, b1_s, oI_e, b1_s, oI_e, b1_s, e65]
      have : gI_ (pI_ (pI_ S 0 39 2) 0 40 (nI (y s - 65))) 0 37 = nI s := by simp only [gI_pI, gI_pL, gI_pA, gI_pB, gI_pR, gI_pW, gL_pI, gL_pL, gL_pA, gL_pB, gL_pR, gL_pW, aI_pI, aI_pL, aI_pA, aI_pB, aI_pR, aI_pW, aL_pI, aL_pL, aL_pA, aL_pB, aL_pR, aL_pW, gR_pI, gR_pL, gR_pA, gR_pB, gR_pR, gR_pW]; simpa using g1
      rw [this, e1]
    · simp only [gI_pI, gI_pL, gI_pA, gI_pB, gI_pR, gI_pW, gL_pI, gL_pL, gL_pA, gL_pB, gL_pR, gL_pW, aI_pI, aI_pL, aI_pA, aI_pB, aI_pR, aI_pW, aL_pI, aL_pL, aL_pA, aL_pB, aL_pR, aL_pW, gR_pI, gR_pL, gR_pA, gR_pB, gR_pR, gR_pW]; simpa using g2
    · simp [gI_pI, gI_pL, gI_pA, gI_pB, gI_pR, gI_pW, gL_pI, gL_pL, gL_pA, gL_pB, gL_pR, gL_pW, aI_pI, aI_pL, aI_pA, aI_pB, aI_pR, aI_pW, aL_pI, aL_pL, aL_pA, aL_pB, aL_pR, aL_pW, gR_pI, gR_pL, gR_pA, gR_pB, gR_pR, gR_pW, te]
    · simp only [gI_pI, gI_pL, gI_pA, gI_pB, gI_pR, gI_pW, gL_pI, gL_pL, gL_pA, gL_pB, gL_pR, gL_pW, aI_pI, aI_pL, aI_pA, aI_pB, aI_pR, aI_pW, aL_pI, aL_pL, aL_pA, aL_pB, aL_pR, aL_pW, gR_pI, gR_pL, gR_pA, gR_pB, gR_pR, gR_pW]; simpa using g3
    · unfold tkK; rw [hc]; rfl
    · simp [gI_pI, gI_pL, gI_pA, gI_pB, gI_pR, gI_pW, gL_pI, gL_pL, gL_pA, gL_pB, gL_pR, gL_pW, aI_pI, aI_pL, aI_pA, aI_pB, aI_pR, aI_pW, aL_pI, aL_pL, aL_pA, aL_pB, aL_pR, aL_pW, gR_pI, gR_pL, gR_pA, gR_pB, gR_pR, gR_pW]
    · simp only [gI_pI, gI_pL, gI_pA, gI_pB, gI_pR, gI_pW, gL_pI, gL_pL, gL_pA, gL_pB, gL_pR, gL_pW, aI_pI, aI_pL, aI_pA, aI_pB, aI_pR, aI_pW, aL_pI, aL_pL, aL_pA, aL_pB, aL_pR, aL_pW, gR_pI, gR_pL, gR_pA, gR_pB, gR_pR, gR_pW]
      unfold tkV; rw [hc]; simp
  | false =>
    have kk : tkK y n s = if y s = 59 then 4 else 1 := by unfold tkK; rw [hc, nD, nW]; rfl
    have start : lxT S = b1 ((if nI (y s) = 59 then some 1 else some 0) : Option (Int32)) fun w27 => b1 (fX12_wants S w27 1) fun S28 => b1 (oI_ S28 0 39 4) fun S29 => b1 (oI_ S29 0 37 ((gI_ S29 0 37) + 1)) fun S30 => some S30 := by
      unfold lxT
      rw [g1, look_m ht hn (by omega), if_pos hs, b1_s, if_pos p0, mW S bs', b1_s, nW, if_pos zb0, mC S bs', b1_s, hc, if_pos zb0, mD S bs', b1_s, nD, if_pos zb0]
    by_cases c : y s = 59
    · have c' : nI (y s) = (59 : Int32) := by rw [c]; rfl
      rw [if_pos c', b1_s, wants1, b1_s, oI_e, b1_s, oI_e, b1_s] at start
      rw [if_pos c] at kk
      have : gI_ (pI_ S 0 39 4) 0 37 = nI s := by simp only [gI_pI, gI_pL, gI_pA, gI_pB, gI_pR, gI_pW, gL_pI, gL_pL, gL_pA, gL_pB, gL_pR, gL_pW, aI_pI, aI_pL, aI_pA, aI_pB, aI_pR, aI_pW, aL_pI, aL_pL, aL_pA, aL_pB, aL_pR, aL_pW, gR_pI, gR_pL, gR_pA, gR_pB, gR_pR, gR_pW]; simpa using g1
      rw [this, e1] at start
      refine ⟨_, start, Fr.pI rfl (Fr.pI rfl (Fr.refl _ _)), ?_, fun h => by omega, fun _ => ⟨?_, Or.inr ⟨?_, Or.inr (Or.inr (Or.inl ⟨kk, ?_⟩))⟩⟩⟩
      · simp only [gI_pI, gI_pL, gI_pA, gI_pB, gI_pR, gI_pW, gL_pI, gL_pL, gL_pA, gL_pB, gL_pR, gL_pW, aI_pI, aI_pL, aI_pA, aI_pB, aI_pR, aI_pW, aL_pI, aL_pL, aL_pA, aL_pB, aL_pR, aL_pW, gR_pI, gR_pL, gR_pA, gR_pB, gR_pR, gR_pW]; simpa using g2
      · simp [gI_pI, gI_pL, gI_pA, gI_pB, gI_pR, gI_pW, gL_pI, gL_pL, gL_pA, gL_pB, gL_pR, gL_pW, aI_pI, aI_pL, aI_pA, aI_pB, aI_pR, aI_pW, aL_pI, aL_pL, aL_pA, aL_pB, aL_pR, aL_pW, gR_pI, gR_pL, gR_pA, gR_pB, gR_pR, gR_pW, te]
      · simp only [gI_pI, gI_pL, gI_pA, gI_pB, gI_pR, gI_pW, gL_pI, gL_pL, gL_pA, gL_pB, gL_pR, gL_pW, aI_pI, aI_pL, aI_pA, aI_pB, aI_pR, aI_pW, aL_pI, aL_pL, aL_pA, aL_pB, aL_pR, aL_pW, gR_pI, gR_pL, gR_pA, gR_pB, gR_pR, gR_pW]; simpa using g3
      · simp [gI_pI, gI_pL, gI_pA, gI_pB, gI_pR, gI_pW, gL_pI, gL_pL, gL_pA, gL_pB, gL_pR, gL_pW, aI_pI, aI_pL, aI_pA, aI_pB, aI_pR, aI_pW, aL_pI, aL_pL, aL_pA, aL_pB, aL_pR, aL_pW, gR_pI, gR_pL, gR_pA, gR_pB, gR_pR, gR_pW]
    · have c' : ¬ nI (y s) = (59 : Int32) := fun q => c ((nI_eq (b := 59) (by omega) (by omega)).mp q)
      rw [if_neg c', b1_s, wants0 g3, b1_s, oI_e, b1_s, oI_e, b1_s, g2] at start
      rw [if_neg c] at kk
      have : gI_ (pI_ (pI_ (pI_ S 0 41 1) 0 42 (nI s)) 0 39 4) 0 37 = nI s := by simp only [gI_pI, gI_pL, gI_pA, gI_pB, gI_pR, gI_pW, gL_pI, gL_pL, gL_pA, gL_pB, gL_pR, gL_pW, aI_pI, aI_pL, aI_pA, aI_pB, aI_pR, aI_pW, aL_pI, aL_pL, aL_pA, aL_pB, aL_pR, aL_pW, gR_pI, gR_pL, gR_pA, gR_pB, gR_pR, gR_pW]; simpa using g1
      rw [this, e1] at start
      refine ⟨_, start, Fr.pI rfl (Fr.pI rfl (Fr.pI rfl (Fr.pI rfl (Fr.refl _ _)))), ?_, fun h => by omega, fun _ => ⟨?_, Or.inl ⟨kk, ?_, ?_⟩⟩⟩
      · simp only [gI_pI, gI_pL, gI_pA, gI_pB, gI_pR, gI_pW, gL_pI, gL_pL, gL_pA, gL_pB, gL_pR, gL_pW, aI_pI, aI_pL, aI_pA, aI_pB, aI_pR, aI_pW, aL_pI, aL_pL, aL_pA, aL_pB, aL_pR, aL_pW, gR_pI, gR_pL, gR_pA, gR_pB, gR_pR, gR_pW]; simpa using g2
      · simp [gI_pI, gI_pL, gI_pA, gI_pB, gI_pR, gI_pW, gL_pI, gL_pL, gL_pA, gL_pB, gL_pR, gL_pW, aI_pI, aI_pL, aI_pA, aI_pB, aI_pR, aI_pW, aL_pI, aL_pL, aL_pA, aL_pB, aL_pR, aL_pW, gR_pI, gR_pL, gR_pA, gR_pB, gR_pR, gR_pW, te]
      · simp [gI_pI, gI_pL, gI_pA, gI_pB, gI_pR, gI_pW, gL_pI, gL_pL, gL_pA, gL_pB, gL_pR, gL_pW, aI_pI, aI_pL, aI_pA, aI_pB, aI_pR, aI_pW, aL_pI, aL_pL, aL_pA, aL_pB, aL_pR, aL_pW, gR_pI, gR_pL, gR_pA, gR_pB, gR_pR, gR_pW]
      · simp [gI_pI, gI_pL, gI_pA, gI_pB, gI_pR, gI_pW, gL_pI, gL_pL, gL_pA, gL_pB, gL_pR, gL_pW, aI_pI, aI_pL, aI_pA, aI_pB, aI_pR, aI_pW, aL_pI, aL_pL, aL_pA, aL_pB, aL_pR, aL_pW, gR_pI, gR_pL, gR_pA, gR_pB, gR_pR, gR_pW]
theorem lx_all {S : St} {s : Nat} (ht : Tap S 0 36 28 n y) (hn : n ≤ 200) (hy : ∀ i, i < n → y i < 256) (hs : s ≤ n) (g1 : gI_ S 0 37 = nI s) (g2 : gI_ S 0 38 = nI s) (g3 : gI_ S 0 41 = 0) : ∃ S', lxT S = some S' ∧ Fr pLx S S' ∧ LxR y n s S' := by
  by_cases c : s = n
  · subst c; exact lx_end ht hn g1 g2 g3
  · have hs' : s < n := by omega
    cases qw : isW (y s) with
    | true => exact lx_word ht hn hy hs' g1 g2 g3 qw
    | false =>
      cases qd : isD (y s) with
      | true => exact lx_num ht hn hy hs' g1 g2 g3 qd
      | false => exact lx_rest ht hn hy hs' g1 g2 g3 qw qd
theorem next_m {S : St} {p : Nat} (ht : Tap S 0 36 28 n y) (hn : n ≤ 200) (hy : ∀ i, i < n → y i < 256) (hp : p ≤ n) (g1 : gI_ S 0 37 = nI p) (g3 : gI_ S 0 41 = 0) : ∃ S', fX12_next S = some S' ∧ Fr pLx S S' ∧ LxR y n (run (fun k => isS (y k)) n p) S' := by
  rw [next_e, g1, look_m ht hn (by omega), b1_s]
  have go : ∀ {U : St}, Fr pLx S U → gI_ U 0 37 = nI (run (fun k => isS (y k)) n p) → gI_ U 0 41 = 0 → ∃ S', lxT (pI_ U 0 38 (gI_ U 0 37)) = some S' ∧ Fr pLx S S' ∧ LxR y n (run (fun k => isS (y k)) n p) S' := fun {U} F h h2 => by
    have ht' : Tap U 0 36 28 n y := ht.fr F rfl (fun j => rfl)
    have ht2 : Tap (pI_ U 0 38 (gI_ U 0 37)) 0 36 28 n y := ht'.fr (Fr.pI (p := fun a b => a == 0 && b == 38) rfl (Fr.refl _ _)) rfl (fun j => rfl)
    obtain ⟨S', e, f, l⟩ := lx_all (S := pI_ U 0 38 (gI_ U 0 37)) ht2 hn hy (run_le hp) (by simp only [gI_pI, gI_pL, gI_pA, gI_pB, gI_pR, gI_pW, gL_pI, gL_pL, gL_pA, gL_pB, gL_pR, gL_pW, aI_pI, aI_pL, aI_pA, aI_pB, aI_pR, aI_pW, aL_pI, aL_pL, aL_pA, aL_pB, aL_pR, aL_pW, gR_pI, gR_pL, gR_pA, gR_pB, gR_pR, gR_pW]; simpa using h) (by simp only [gI_pI, gI_pL, gI_pA, gI_pB, gI_pR, gI_pW, gL_pI, gL_pL, gL_pA, gL_pB, gL_pR, gL_pW, aI_pI, aI_pL, aI_pA, aI_pB, aI_pR, aI_pW, aL_pI, aL_pL, aL_pA, aL_pB, aL_pR, aL_pW, gR_pI, gR_pL, gR_pA, gR_pB, gR_pR, gR_pW, and_self, if_true]; exact h) (by simp only [gI_pI, gI_pL, gI_pA, gI_pB, gI_pR, gI_pW, gL_pI, gL_pL, gL_pA, gL_pB, gL_pR, gL_pW, aI_pI, aI_pL, aI_pA, aI_pB, aI_pR, aI_pW, aL_pI, aL_pL, aL_pA, aL_pB, aL_pR, aL_pW, gR_pI, gR_pL, gR_pA, gR_pB, gR_pR, gR_pW]; simpa using h2)
    exact ⟨S', e, (Fr.pI rfl F).trans f, l⟩
  by_cases c : p < n ∧ y p = 32
  · have c' : nI (y p) = (32 : Int32) := by rw [c.2]; rfl
    have ep : nI p + 1 = nI (p + 1) := nI_add _ 1
    rw [if_pos c.1, if_pos c', oI_e, b1_s, ep]
    obtain ⟨u, eu, fu, gu⟩ := scan_m (body := fun w70 : St => bX12_next_0  w70) (p := fun k => isS (y k)) (S := pI_ S 0 37 (nI (p + 1))) (i := p + 1) hn (by omega) (by simp [gI_pI, gI_pL, gI_pA, gI_pB, gI_pR, gI_pW, gL_pI, gL_pL, gL_pA, gL_pB, gL_pR, gL_pW, aI_pI, aI_pL, aI_pA, aI_pB, aI_pR, aI_pW, aL_pI, aL_pL, aL_pA, aL_pB, aL_pR, aL_pW, gR_pI, gR_pL, gR_pA, gR_pB, gR_pR, gR_pW]) (fun S' j f gj hj => by
      have ht' : Tap S' 0 36 28 n y := (ht.fr (Fr.pI (p := p37) rfl (Fr.refl _ _)) rfl (fun j => rfl)).fr f rfl (fun j => rfl)
      have ej : nI j + 1 = nI (j + 1) := nI_add _ 1
      show bX12_next_0 S' = _
      unfold bX12_next_0
      rw [gj, look_m ht' hn (by omega), b1_s]
      by_cases d : j < n
      · have := hy j d
        rw [if_pos d]
        by_cases e : y j = 32
        · have e' : nI (y j) = (32 : Int32) := by rw [e]; rfl
          rw [if_pos e', if_pos ⟨d, by simp [isS, e]⟩, oI_e, b1_s, ej]
        · have e' : ¬ nI (y j) = (32 : Int32) := fun q => e ((nI_eq (b := 32) (by omega) (by omega)).mp q)
          rw [if_neg e', if_neg (fun z => by simp [isS, e] at z)]
      · rw [if_neg d, if_neg (by decide : ¬ (-1 : Int32) = 32), if_neg (fun z => d z.1)])
    rw [eu, b1_s, oI_e, b1_s]
    have F : Fr pLx S u := (Fr.pI rfl (Fr.refl _ _)).trans (fu.mono (by intro a b q; simp [pLx, p37] at q ⊢; omega))
    refine go F ?_ ?_
    · rw [gu]; exact congrArg nI (run_go (p := fun k => isS (y k)) c.1 (by simp [isS, c.2])).symm
    · rw [fu.gI rfl]; simp only [gI_pI, gI_pL, gI_pA, gI_pB, gI_pR, gI_pW, gL_pI, gL_pL, gL_pA, gL_pB, gL_pR, gL_pW, aI_pI, aI_pL, aI_pA, aI_pB, aI_pR, aI_pW, aL_pI, aL_pL, aL_pA, aL_pB, aL_pR, aL_pW, gR_pI, gR_pL, gR_pA, gR_pB, gR_pR, gR_pW]; simpa using g3
  · have c' : ¬ (if p < n then nI (y p) else -1) = (32 : Int32) := by
      by_cases d : p < n
      · rw [if_pos d]
        have := hy p d
        exact fun q => c ⟨d, (nI_eq (b := 32) (by omega) (by omega)).mp q⟩
      · rw [if_neg d]; decide
    rw [if_neg c', oI_e, b1_s]
    have r : run (fun k => isS (y k)) n p = p := run_stop hp (fun d => by
      cases q : isS (y p)
      · rfl
      · exact absurd ⟨d, by simpa [isS] using q⟩ c)
    have := go (U := S) (Fr.refl _ _) (by rw [r]; exact g1) g3
    rw [g1] at this
    exact this
end NEXT
