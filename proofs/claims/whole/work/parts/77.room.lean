/-! orders: the class makes room -/
theorem tst {x : Int32} {k : Nat} (hk : k < 32) : (x &&& ((1 : Int32) <<< (nI k &&& 31)) = 0) ↔ bt x k = false := by
  constructor
  · intro h
    have := congrArg (fun z => bt z k) h
    simp only [b_and, one_shl k hk hk, b_0, decide_true, Bool.and_true] at this
    exact this
  · intro h
    apply b_ext
    intro i hi
    rw [b_and, one_shl k hk hi, b_0]
    by_cases z : i = k
    · rw [z, h]; rfl
    · simp [z]
theorem tst_t {x : Int32} {k : Nat} (hk : k < 32) (h : bt x k = true) : ¬ (x &&& ((1 : Int32) <<< (nI k &&& 31)) = 0) := fun q => by
  rw [(tst hk).mp q] at h; cases h
def hv : Option Nat → Int32
  | none => -4
  | some o => nI o
def pMk (a b : Nat) : Bool := a == 48 || (a == 42 && b == 10)
def EnX (n K : Nat) (su : Nat → Nat → Bool) (B : Nat → Bool) (S : St) : Prop :=
  gI_ S 37 4 = nI K ∧ gI_ S 42 5 = nI n ∧ (∀ o, o < n → ∀ i, i < 32 → bt (aI_ S 47 o) i = (decide (i < K) && su o i)) ∧ (∀ i, i < 32 → bt (gI_ S 42 9) i = (decide (i < K) && B i))
theorem EnX.fr {n K : Nat} {su : Nat → Nat → Bool} {B : Nat → Bool} {S S' : St} (h : EnX n K su B S) (hf : Fr pMk S S') : EnX n K su B S' :=
  ⟨by rw [hf.gI rfl]; exact h.1, by rw [hf.gI rfl]; exact h.2.1, fun o ho i hi => by rw [hf.aI rfl]; exact h.2.2.1 o ho i hi, fun i hi => by rw [hf.gI rfl]; exact h.2.2.2 i hi⟩
def Row (S : St) (hd : Nat → Option Nat) (T : Nat → Bool) : Prop := (∀ k, k < 12 → aI_ S 48 k = hv (hd k)) ∧ ∀ i, i < 32 → bt (gI_ S 42 10) i = T i
theorem room {n K : Nat} {su : Nat → Nat → Bool} {B P : Nat → Bool} {hd : Nat → Option Nat} (hn : n ≤ 8) (hK : K ≤ 12) (h1 : Hd n K su B P hd) : ∀ (fuel : Nat) (S : St) (o d : Nat) (T C : Nat → Bool), 9 ≤ fuel + d → EnX n K su B S → Row S hd T → o < n → C o = true → fb_ct C n = d + 1 → (∀ c, c < n → C c = true → ∀ k, hd k = some c → T k = true) →
    ∃ r S', fX4_makeRoom fuel S (nI o) (nI d) = some (r, S') ∧ Fr pMk S S' ∧ ((r = 0 ∧ ∃ T', Row S' hd T' ∧ Fai K su B hd T o T') ∨ (r = 1 ∧ ∃ hd' T', Row S' hd' T' ∧ Suc n K su B hd T o hd')) := by
  intro fuel
  induction fuel with
  | zero =>
    intro S o d T C hf _ _ _ _ hd' _
    have := fb_ct_le C n
    omega
  | succ fuel ih =>
    intro S o d T C hf hE hR ho hCo hCd hC
    have hd8 : d < 8 := by have := fb_ct_le C n; omega
    have l8 : nI d < (8 : Int32) := (nI_ltI (b := 8) (by omega) (by omega)).mpr hd8
    have ed : nI d + 1 = nI (d + 1) := nI_add _ 1
    obtain ⟨u, eu, hu⟩ := lp_inv (body := fun w21 : Int32 × St => bX4_makeRoom_10 (fX4_makeRoom fuel) (nI o) (nI d) w21.1 w21.2)
      (fun i s => s.1 = nI i ∧ Fr pMk S s.2 ∧ ∃ T', Row s.2 hd T' ∧ (∀ k, T k = true → T' k = true) ∧ (∀ k, k < i → B k = true → su o k = true → T' k = true) ∧ (∀ k, T' k = true → T k = false → k < K ∧ ∃ c, hd k = some c ∧ ∀ k', k' < K → B k' = true → su c k' = true → T' k' = true))
      (fun r => (∃ S' T', r = .inr (0, S') ∧ Fr pMk S S' ∧ Row S' hd T' ∧ Fai K su B hd T o T') ∨ (∃ k S' hd1 T', r = .inl (nI k, S') ∧ k < K ∧ Fr pMk S S' ∧ Row S' hd1 T' ∧ Suc n K su B hd T o (fun j => if j = k then some o else hd1 j))) K (m := 5000) (s := (0, S)) (by omega)
      ⟨rfl, Fr.refl _ _, T, hR, fun _ h => h, fun k h => by omega, fun k a b => by rw [a] at b; cases b⟩
      (by
        rintro i ⟨s1, s2⟩ hi ⟨k1, k2, T', k3, k4, k5, k6⟩
        obtain rfl : s1 = nI i := k1
        have k2' : Fr pMk S s2 := k2
        obtain ⟨g1, g2, g3, g4⟩ := hE.fr k2'
        have ei : nI i + 1 = nI (i + 1) := nI_add _ 1
        have hi32 : i < 32 := by omega
        have nle : ¬ nI K ≤ nI i := nI_ge hi (by omega)
        have keep : ¬ (B i = true ∧ su o i = true) ∨ T' i = true → (∀ k, k < i + 1 → B k = true → su o k = true → T' k = true) := fun q k hk a b => by
          by_cases z : k = i
          · subst z; rcases q with q | q
            · exact absurd ⟨a, b⟩ q
            · exact q
          · exact k5 k (by omega) a b
        have bb : bt (aI_ s2 47 o &&& gI_ s2 42 9) i = (su o i && B i) := by
          rw [b_and, g3 o ho i hi32, g4 i hi32, decide_eq_true hi]; simp
        show (∃ s', bX4_makeRoom_10 (fX4_makeRoom fuel) (nI o) (nI d) (nI i) s2 = _ ∧ _) ∨ (∃ r, bX4_makeRoom_10 (fX4_makeRoom fuel) (nI o) (nI d) (nI i) s2 = _ ∧ _)
        unfold bX4_makeRoom_10
        rw [g1, if_neg nle, rI_n (by omega) (by omega), b1_s]
        by_cases c1 : su o i = true ∧ B i = true
        · have t1 : bt (aI_ s2 47 o &&& gI_ s2 42 9) i = true := by rw [bb, c1.1, c1.2]; rfl
          rw [if_neg (tst_t hi32 t1)]
          cases c2 : T' i with
          | true =>
            have t2 : bt (gI_ s2 42 10) i = true := by rw [k3.2 i hi32]; exact c2
            rw [if_neg (tst_t hi32 t2), ei]
            exact Or.inl ⟨_, rfl, rfl, k2', T', k3, k4, keep (Or.inr c2), k6⟩
          | false =>
            have t2 : bt (gI_ s2 42 10) i = false := by rw [k3.2 i hi32]; exact c2
            have Ti : T i = false := by
              cases q : T i
              · rfl
              · rw [k4 i q] at c2; cases c2
            rw [if_pos ((tst hi32).mpr t2), oI_e, b1_s, rI_n (by omega) (by omega), b1_s]
            have fr1 : Fr pMk S (pI_ s2 42 10 (gI_ s2 42 10 ||| ((1 : Int32) <<< (nI i &&& 31)))) := Fr.pI rfl k2'
            have a48 : aI_ (pI_ s2 42 10 (gI_ s2 42 10 ||| ((1 : Int32) <<< (nI i &&& 31)))) 48 i = hv (hd i) := k3.1 i (by omega)
            have row1 : Row (pI_ s2 42 10 (gI_ s2 42 10 ||| ((1 : Int32) <<< (nI i &&& 31)))) hd (fun j => if j = i then true else T' j) := ⟨fun k hk => k3.1 k hk, fun j hj => by
              simp only [gI_pI, gI_pL, gI_pA, gI_pB, gI_pR, gI_pW, gL_pI, gL_pL, gL_pA, gL_pB, gL_pR, gL_pW, aI_pI, aI_pL, aI_pA, aI_pB, aI_pR, aI_pW, aL_pI, aL_pL, aL_pA, aL_pB, aL_pR, aL_pW, gR_pI, gR_pL, gR_pA, gR_pB, gR_pR, gR_pW, and_self, if_true]
              rw [b_or, k3.2 j hj, one_shl i hi32 hj]
              by_cases z : j = i
              · simp [z]
              · simp [z]⟩
            rw [a48]
            cases e : hd i with
            | none =>
              have hv0 : hv none = -4 := rfl
              rw [if_pos hv0]
              refine Or.inr ⟨_, rfl, Or.inr ⟨i, _, hd, _, rfl, hi, fr1, row1, suc_free h1 ho (fun k hk => hC o ho hCo k hk) hi c1.2 c1.1 Ti e⟩⟩
            | some o' =>
              have ho' : o' < n := (h1.1 i o' e).2.1
              have n4 : ¬ hv (some o') = -4 := fun q => (m4_ne (a := o') (by omega)).mp q
              have Co : C o' = false := by
                cases q : C o'
                · rfl
                · rw [hC o' ho' q i e] at Ti; cases Ti
              have T1 : ∀ j, T j = true → (fun j => if j = i then true else T' j) j = true := fun j hj => by
                show (if j = i then true else T' j) = true
                by_cases z : j = i
                · rw [if_pos z]
                · rw [if_neg z]; exact k4 j hj
              have cnt : fb_ct (fun c => if c = o' then true else C c) n = (d + 1) + 1 := by
                have := fb_ct_upd C true ho'
                rw [Co, hCd] at this
                simpa using this
              obtain ⟨r, S', er, fr, hr⟩ := ih (pI_ s2 42 10 (gI_ s2 42 10 ||| ((1 : Int32) <<< (nI i &&& 31)))) o' (d + 1) (fun j => if j = i then true else T' j) (fun c => if c = o' then true else C c) (by omega) (hE.fr fr1) row1 ho' (by simp) cnt (fun c hc hCc k hk => by
                by_cases z : c = o'
                · rw [z] at hk
                  have := h1.2 k i o' hk e
                  simp [this]
                · simp only [z, if_false] at hCc
                  exact T1 k (hC c hc hCc k hk))
              rw [if_neg n4, b1_s, ed]
              show (∃ s', b1 (fX4_makeRoom fuel _ (nI o') (nI (d + 1))) _ = _ ∧ _) ∨ (∃ r, b1 (fX4_makeRoom fuel _ (nI o') (nI (d + 1))) _ = _ ∧ _)
              rw [er, b1_s]
              rcases hr with ⟨rfl, T2, row2, f1, f2, f3⟩ | ⟨rfl, hd', T2, row2, sc⟩
              · rw [if_pos rfl, ei]
                have i2 : T2 i = true := f1 i (by simp)
                have up : ∀ k, T' k = true → T2 k = true := fun k hk => f1 k (by
                  show (if k = i then true else T' k) = true
                  by_cases z : k = i
                  · rw [if_pos z]
                  · rw [if_neg z]; exact hk)
                refine Or.inl ⟨_, rfl, rfl, fr1.trans fr, T2, row2, fun k hk => up k (k4 k hk), fun k hk a b => ?_, fun k a b => ?_⟩
                · by_cases z : k = i
                  · rw [z]; exact i2
                  · exact up k (k5 k (by omega) a b)
                · by_cases z : k = i
                  · rw [z]; exact ⟨hi, o', e, f2⟩
                  · cases q : T' k
                    · exact f3 k a (by simp [z, q])
                    · obtain ⟨x1, c, x2, x3⟩ := k6 k q b
                      exact ⟨x1, c, x2, fun k' y1 y2 y3 => up k' (x3 k' y1 y2 y3)⟩
              · rw [if_neg (by decide : ¬ (1 : Int32) = 0)]
                refine Or.inr ⟨_, rfl, Or.inr ⟨i, S', hd', T2, rfl, hi, fr1.trans fr, row2, suc_step h1 ho (fun k hk => hC o ho hCo k hk) hi c1.2 c1.1 Ti e T1 (by simp) sc⟩⟩
        · have t1 : bt (aI_ s2 47 o &&& gI_ s2 42 9) i = false := by
            rw [bb]
            cases q1 : su o i <;> cases q2 : B i <;> first | rfl | exact absurd ⟨q1, q2⟩ c1
          rw [if_pos ((tst hi32).mpr t1), ei]
          exact Or.inl ⟨_, rfl, rfl, k2', T', k3, k4, keep (Or.inl (fun q => c1 ⟨q.2, q.1⟩)), k6⟩)
      (by
        rintro ⟨s1, s2⟩ ⟨k1, k2, T', k3, k4, k5, k6⟩
        obtain rfl : s1 = nI K := k1
        have k2' : Fr pMk S s2 := k2
        obtain ⟨g1, g2, g3, g4⟩ := hE.fr k2'
        refine ⟨.inr (0, s2), ?_, Or.inl ⟨s2, T', rfl, k2', k3, k4, fun k hk a b => k5 k hk a b, k6⟩⟩
        show bX4_makeRoom_10 (fX4_makeRoom fuel) (nI o) (nI d) (nI K) s2 = _
        unfold bX4_makeRoom_10
        rw [g1, if_pos (nI_le (Nat.le_refl _) (by omega))])
    show ∃ r S', (if nI d < 8 then bs (lp (fun w21 : Int32 × St => bX4_makeRoom_10 (fX4_makeRoom fuel) (nI o) (nI d) w21.1 w21.2) 5000 (0, S)) (fun u34 => b1 (wI_ u34.2 48 12 u34.1 (nI o)) fun S35 => some (1, S35)) (fun rr => some rr) else some (0, S)) = some (r, S') ∧ _
    rw [if_pos l8, eu]
    rcases hu with ⟨S', T', rfl, f, row, fa⟩ | ⟨k, S', hd1, T', rfl, hk, f, row, sc⟩
    · exact ⟨0, S', rfl, f, Or.inl ⟨rfl, T', row, fa⟩⟩
    · rw [bs_l, wI_n (by omega) (by omega), b1_s]
      refine ⟨1, _, rfl, Fr.pA rfl f, Or.inr ⟨rfl, _, T', ⟨fun j hj => ?_, fun i hi => row.2 i hi⟩, sc⟩⟩
      simp only [gI_pI, gI_pL, gI_pA, gI_pB, gI_pR, gI_pW, gL_pI, gL_pL, gL_pA, gL_pB, gL_pR, gL_pW, aI_pI, aI_pL, aI_pA, aI_pB, aI_pR, aI_pW, aL_pI, aL_pL, aL_pA, aL_pB, aL_pR, aL_pW, gR_pI, gR_pL, gR_pA, gR_pB, gR_pR, gR_pW, true_and]
      by_cases z : j = k
      · rw [if_pos z, if_pos z]; rfl
      · rw [if_neg z, if_neg z]; exact row.1 j hj
