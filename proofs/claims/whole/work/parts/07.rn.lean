/-! Rn and its rows -/
theorem b1_some {α β : Type} {o : Option α} {f : α → Option β} {r : β} (h : b1 o f = some r) : ∃ a, o = some a ∧ f a = some r := by
  cases o with
  | none => cases h
  | some a => exact ⟨a, rfl, h⟩
theorem bs_some {α β γ : Type} {o : Option (α ⊕ β)} {f : α → Option γ} {g : β → Option γ} {r : γ} (h : bs o f g = some r) : (∃ a, o = some (.inl a) ∧ f a = some r) ∨ (∃ b, o = some (.inr b) ∧ g b = some r) := by
  match o, h with
  | some (.inl a), h => exact Or.inl ⟨a, rfl, h⟩
  | some (.inr b), h => exact Or.inr ⟨b, rfl, h⟩
theorem lp_rule {σ ρ : Type} {body : σ → Option (σ ⊕ ρ)} {R : σ → Prop} {X : ρ → Prop} (hb : ∀ s o, body s = some o → (∀ s', o = .inl s' → R s') → (∀ r, o = .inr r → X r) → R s) : ∀ (n : Nat) (s : σ) (r : ρ), lp body n s = some r → X r → R s := by
  intro n
  induction n with
  | zero => intro s r h; cases h
  | succ n ih =>
    intro s r h hX
    rw [lp] at h
    cases hbs : body s with
    | none => rw [hbs] at h; cases h
    | some o =>
      rw [hbs] at h
      match o, hbs, h with
      | .inl s', hbs, h => exact hb s _ hbs (fun s2 e => by cases e; exact ih s' r h hX) (fun r2 e => by cases e)
      | .inr r', hbs, h => exact hb s _ hbs (fun s2 e => by cases e) (fun r2 e => by cases e; cases h; exact hX)
theorem rI_some {S : St} {k n : Nat} {i x : Int32} (h : rI_ S k n i = some x) : vp_in i n ∧ x = aI_ S k i.toNatClampNeg := by
  unfold rI_ at h; split at h
  · cases h
  · rename_i q; cases h; exact ⟨q, rfl⟩
theorem rL_some {S : St} {k n : Nat} {i : Int32} {x : Int64} (h : rL_ S k n i = some x) : vp_in i n ∧ x = aL_ S k i.toNatClampNeg := by
  unfold rL_ at h; split at h
  · cases h
  · rename_i q; cases h; exact ⟨q, rfl⟩
theorem rR_some {n : Nat} {g : Nat → Nat} {i : Int32} {x : Nat} (h : rR_ n g i = some x) : vp_in i n ∧ x = g i.toNatClampNeg := by
  unfold rR_ at h; split at h
  · cases h
  · rename_i q; cases h; exact ⟨q, rfl⟩
theorem wI_some {S S' : St} {k n : Nat} {i v : Int32} (h : wI_ S k n i v = some S') : vp_in i n ∧ S' = pA_ S k i.toNatClampNeg v := by
  unfold wI_ at h; split at h
  · cases h
  · rename_i q; cases h; exact ⟨q, rfl⟩
theorem wZ_some {S S' : St} {k n : Nat} {i v : Int32} (h : wZ_ S k n i v = some S') : vp_in i n ∧ S' = pA_ S k i.toNatClampNeg (vp_nar .boolean v) := by
  unfold wZ_ at h; split at h
  · cases h
  · rename_i q; cases h; exact ⟨q, rfl⟩
theorem wL_some {S S' : St} {k n : Nat} {i : Int32} {v : Int64} (h : wL_ S k n i v = some S') : vp_in i n ∧ S' = pB_ S k i.toNatClampNeg v := by
  unfold wL_ at h; split at h
  · cases h
  · rename_i q; cases h; exact ⟨q, rfl⟩
theorem bz_some {v r : Int32} (h : bz_ v = some r) : r = v ∧ narrow .boolean (.int v) = .int v := by
  unfold bz_ at h; split at h
  · rename_i q; cases h; rcases q with rfl | rfl <;> exact ⟨rfl, by decide⟩
  · cases h
theorem dv_some {v r : Int32} (h : dv_ v = some r) : r = v ∧ ¬ v = 0 := by
  unfold dv_ at h; split at h
  · cases h
  · rename_i q; cases h; exact ⟨rfl, q⟩
theorem ne_toInt {x c : Int32} (h : ¬ x = c) : x.toInt ≠ c.toInt := fun q => h (Int32.toInt_inj.mp q)
def rm_ (d : Nat) : Room := { frames := d, cells := 0, slots := 0, locals := 64 * d }
def Qc_ (G : Gx) (sh : List ShE) (post : Option Value → St → Prop) : Array Value → State → Outcome → State → Prop := fun _ st oc t =>
  (∃ (r : Option Value) (S' : St), oc = .returned r ∧ post r S' ∧ va_P (D_ G) vwCl (pic_ G sh S') t.heap) ∧ va_F (A_ G sh) st t
def Hy_ (G : Gx) (sh : List ShE) (y : MethodName) (cc : ByteArray) (nL : Nat) (ret : Option FieldType) (p : Program) (s : State) (m : MethodId) (args : Array Value) (meth : Method) (c : Code) : Prop :=
  p.tables.exec = Jvm.exec ∧ c.code = cc ∧ meth.sig.returnType = ret ∧ c.maxLocals = nL ∧ s.vm.findClass y.cls = some m.cls ∧ (∀ w ∈ TB_, w.before args s = true) ∧ meth.locks = false ∧ inj_ G sh ∧ va_K (D_ G) vwCl (tys_ G) s ∧ Ex_ G sh s s.heap
def Rn (G : Gx) (sh : List ShE) (d : Nat) (y : MethodName) (cc : ByteArray) (nL : Nat) (ret : Option FieldType) (pc : Nat) (lv : List (Nat × Value)) (st : List Value) (S : St) (post : Option Value → St → Prop) : Prop :=
  ∀ (p : Program) (e : Env) (s : State) (m : MethodId) (args : Array Value) (below : List Frame) (meth : Method) (c : Code) (H : Heap) (locs : List Loc) (ls : Array Slot),
    Hy_ G sh y cc nL ret p s m args meth c → va_P (D_ G) vwCl (pic_ G sh S) H → va_S (A_ G sh) s.heap H locs → lv_has ls nL lv →
    W p (l_ G) e (rm_ d) s m args below meth c H locs 0 0 (MQ below (Qc_ G sh post) args s 0 0 (A_ G sh)) (F0 m pc ls st)
def MR_ (G : Gx) (sh : List ShE) (d : Nat) (y : MethodName) (cc : ByteArray) (nL : Nat) (ret : Option FieldType) (av : List Value) (S : St) (post : Option Value → St → Prop) : Prop :=
  inj_ G sh → Met (l_ G) y (.code y cc nL ret :: TB_) (rm_ d) (va_Pc av (fun U => va_P (D_ G) vwCl (pic_ G sh S) U.heap ∧ va_K (D_ G) vwCl (tys_ G) U ∧ Ex_ G sh U U.heap)) (Qc_ G sh post) 0 0 (A_ G sh)
def PI_ (v : Int32) (S : St) : Option Value → St → Prop := fun r S' => r = some (.int v) ∧ S' = S
def PL_ (v : Int64) (S : St) : Option Value → St → Prop := fun r S' => r = some (.long v) ∧ S' = S
def PV_ (S : St) : Option Value → St → Prop := fun r S' => r = none ∧ S' = S
theorem TB_in {y : MethodName} {cc : ByteArray} {nL : Nat} {ret : Option FieldType} (h : Cond.code y cc nL ret ∈ TB_) : GoodIn TB_ (.code y cc nL ret :: TB_) := fun w hw => by
  rcases List.mem_cons.mp hw with rfl | hw
  · exact ⟨h, TB_good _ h⟩
  · exact ⟨hw, TB_good _ hw⟩
section RN
variable {G : Gx} {sh : List ShE} {d : Nat} {y : MethodName} {cc : ByteArray} {nL : Nat} {ret : Option FieldType} {pc : Nat} {lv : List (Nat × Value)} {st rest : List Value} {S : St} {post : Option Value → St → Prop}

theorem r_iconst {n : Int} {v : Int32} (hdg : decode cc pc = .ok (.iconst n, 1)) (hv : Int32.ofInt n = v) (k : Rn G sh d y cc nL ret (pc + 1) lv (.int v :: rest) S post) : Rn G sh d y cc nL ret pc lv rest S post := by
  intro p e s m args below meth c H locs ls hy hP hS hl
  exact lv_iconst hy.1 hy.2.1 hdg hv (k p e s m args below meth c H locs ls hy hP hS hl)
theorem r_bipush {n : Int} {v : Int32} (hdg : decode cc pc = .ok (.bipush n, 2)) (hv : (Int8.ofInt n).toInt32 = v) (k : Rn G sh d y cc nL ret (pc + 2) lv (.int v :: rest) S post) : Rn G sh d y cc nL ret pc lv rest S post := by
  intro p e s m args below meth c H locs ls hy hP hS hl
  exact lv_bipush hy.1 hy.2.1 hdg hv (k p e s m args below meth c H locs ls hy hP hS hl)
theorem r_sipush {n : Int} {v : Int32} (hdg : decode cc pc = .ok (.sipush n, 3)) (hv : (Int16.ofInt n).toInt32 = v) (k : Rn G sh d y cc nL ret (pc + 3) lv (.int v :: rest) S post) : Rn G sh d y cc nL ret pc lv rest S post := by
  intro p e s m args below meth c H locs ls hy hP hS hl
  exact lv_sipush hy.1 hy.2.1 hdg hv (k p e s m args below meth c H locs ls hy hP hS hl)
theorem r_lconst {n : Fin 2} {v : Int64} (hdg : decode cc pc = .ok (.lconst n, 1)) (hv : Int64.ofNat (n : Nat) = v) (k : Rn G sh d y cc nL ret (pc + 1) lv (.long v :: rest) S post) : Rn G sh d y cc nL ret pc lv rest S post := by
  intro p e s m args below meth c H locs ls hy hP hS hl
  exact lv_lconst hy.1 hy.2.1 hdg hv (k p e s m args below meth c H locs ls hy hP hS hl)
theorem r_iload_n {k0 : Fin 4} {i : Nat} {x : Int32} (q : Nat) (hdg : decode cc pc = .ok (.iload_n k0, 1)) (hi : (k0 : Nat) = i) (hq : lv[q]? = some (i, .int x)) (k : Rn G sh d y cc nL ret (pc + 1) lv (.int x :: rest) S post) : Rn G sh d y cc nL ret pc lv rest S post := by
  intro p e s m args below meth c H locs ls hy hP hS hl
  exact lv_iload_n hy.1 hy.2.1 hdg hi (lv_at hl q hq) (k p e s m args below meth c H locs ls hy hP hS hl)
theorem r_iload {i : Nat} {x : Int32} (q : Nat) (hdg : decode cc pc = .ok (.iload i, 2)) (hq : lv[q]? = some (i, .int x)) (k : Rn G sh d y cc nL ret (pc + 2) lv (.int x :: rest) S post) : Rn G sh d y cc nL ret pc lv rest S post := by
  intro p e s m args below meth c H locs ls hy hP hS hl
  exact lv_iload hy.1 hy.2.1 hdg (lv_at hl q hq) (k p e s m args below meth c H locs ls hy hP hS hl)
theorem r_istore_n {k0 : Fin 4} {i : Nat} {x : Int32} (lv2 : List (Nat × Value)) (ks : List Nat) (hdg : decode cc pc = .ok (.istore_n k0, 1)) (hi : (k0 : Nat) = i) (hn : i < nL) (hp : lv_pick ((i, .int x) :: lv.filter (fun q => !(q.1 == i) && !(q.1 + 1 == i && q.2.category == 2))) ks = lv2) (k : Rn G sh d y cc nL ret (pc + 1) lv2 rest S post) : Rn G sh d y cc nL ret pc lv (.int x :: rest) S post := by
  intro p e s m args below meth c H locs ls hy hP hS hl
  exact lv_istore_n hy.1 hy.2.1 hdg hi hl hn rfl (fun ls2 h2 => k p e s m args below meth c H locs ls2 hy hP hS (lv_sub h2 ks hp))
theorem r_istore {i : Nat} {x : Int32} (lv2 : List (Nat × Value)) (ks : List Nat) (hdg : decode cc pc = .ok (.istore i, 2)) (hn : i < nL) (hp : lv_pick ((i, .int x) :: lv.filter (fun q => !(q.1 == i) && !(q.1 + 1 == i && q.2.category == 2))) ks = lv2) (k : Rn G sh d y cc nL ret (pc + 2) lv2 rest S post) : Rn G sh d y cc nL ret pc lv (.int x :: rest) S post := by
  intro p e s m args below meth c H locs ls hy hP hS hl
  exact lv_istore hy.1 hy.2.1 hdg hl hn rfl (fun ls2 h2 => k p e s m args below meth c H locs ls2 hy hP hS (lv_sub h2 ks hp))
theorem r_lload_n {k0 : Fin 4} {i : Nat} {x : Int64} (q : Nat) (hdg : decode cc pc = .ok (.lload_n k0, 1)) (hi : (k0 : Nat) = i) (hq : lv[q]? = some (i, .long x)) (k : Rn G sh d y cc nL ret (pc + 1) lv (.long x :: rest) S post) : Rn G sh d y cc nL ret pc lv rest S post := by
  intro p e s m args below meth c H locs ls hy hP hS hl
  exact lv_lload_n hy.1 hy.2.1 hdg hi (lv_at hl q hq) (k p e s m args below meth c H locs ls hy hP hS hl)
theorem r_lload {i : Nat} {x : Int64} (q : Nat) (hdg : decode cc pc = .ok (.lload i, 2)) (hq : lv[q]? = some (i, .long x)) (k : Rn G sh d y cc nL ret (pc + 2) lv (.long x :: rest) S post) : Rn G sh d y cc nL ret pc lv rest S post := by
  intro p e s m args below meth c H locs ls hy hP hS hl
  exact lv_lload hy.1 hy.2.1 hdg (lv_at hl q hq) (k p e s m args below meth c H locs ls hy hP hS hl)
theorem r_lstore_n {k0 : Fin 4} {i : Nat} {x : Int64} (lv2 : List (Nat × Value)) (ks : List Nat) (hdg : decode cc pc = .ok (.lstore_n k0, 1)) (hi : (k0 : Nat) = i) (hn : i + 1 < nL) (hp : lv_pick ((i, .long x) :: lv.filter (fun q => !(q.1 == i) && (!(q.1 == i + 1) && !(q.1 + 1 == i && q.2.category == 2)))) ks = lv2) (k : Rn G sh d y cc nL ret (pc + 1) lv2 rest S post) : Rn G sh d y cc nL ret pc lv (.long x :: rest) S post := by
  intro p e s m args below meth c H locs ls hy hP hS hl
  exact lv_lstore_n hy.1 hy.2.1 hdg hi hl hn rfl (fun ls2 h2 => k p e s m args below meth c H locs ls2 hy hP hS (lv_sub h2 ks hp))
theorem r_lstore {i : Nat} {x : Int64} (lv2 : List (Nat × Value)) (ks : List Nat) (hdg : decode cc pc = .ok (.lstore i, 2)) (hn : i + 1 < nL) (hp : lv_pick ((i, .long x) :: lv.filter (fun q => !(q.1 == i) && (!(q.1 == i + 1) && !(q.1 + 1 == i && q.2.category == 2)))) ks = lv2) (k : Rn G sh d y cc nL ret (pc + 2) lv2 rest S post) : Rn G sh d y cc nL ret pc lv (.long x :: rest) S post := by
  intro p e s m args below meth c H locs ls hy hP hS hl
  exact lv_lstore hy.1 hy.2.1 hdg hl hn rfl (fun ls2 h2 => k p e s m args below meth c H locs ls2 hy hP hS (lv_sub h2 ks hp))
theorem r_aload_n {k0 : Fin 4} {i : Nat} {x : Nat} (q : Nat) (hdg : decode cc pc = .ok (.aload_n k0, 1)) (hi : (k0 : Nat) = i) (hq : lv[q]? = some (i, .ref x)) (k : Rn G sh d y cc nL ret (pc + 1) lv (.ref x :: rest) S post) : Rn G sh d y cc nL ret pc lv rest S post := by
  intro p e s m args below meth c H locs ls hy hP hS hl
  exact lv_aload_n hy.1 hy.2.1 hdg hi (lv_at hl q hq) (k p e s m args below meth c H locs ls hy hP hS hl)
theorem r_aload {i : Nat} {x : Nat} (q : Nat) (hdg : decode cc pc = .ok (.aload i, 2)) (hq : lv[q]? = some (i, .ref x)) (k : Rn G sh d y cc nL ret (pc + 2) lv (.ref x :: rest) S post) : Rn G sh d y cc nL ret pc lv rest S post := by
  intro p e s m args below meth c H locs ls hy hP hS hl
  exact lv_aload hy.1 hy.2.1 hdg (lv_at hl q hq) (k p e s m args below meth c H locs ls hy hP hS hl)
theorem r_astore_n {k0 : Fin 4} {i : Nat} {x : Nat} (lv2 : List (Nat × Value)) (ks : List Nat) (hdg : decode cc pc = .ok (.astore_n k0, 1)) (hi : (k0 : Nat) = i) (hn : i < nL) (hp : lv_pick ((i, .ref x) :: lv.filter (fun q => !(q.1 == i) && !(q.1 + 1 == i && q.2.category == 2))) ks = lv2) (k : Rn G sh d y cc nL ret (pc + 1) lv2 rest S post) : Rn G sh d y cc nL ret pc lv (.ref x :: rest) S post := by
  intro p e s m args below meth c H locs ls hy hP hS hl
  exact lv_astore_n hy.1 hy.2.1 hdg hi hl hn rfl (fun ls2 h2 => k p e s m args below meth c H locs ls2 hy hP hS (lv_sub h2 ks hp))
theorem r_astore {i : Nat} {x : Nat} (lv2 : List (Nat × Value)) (ks : List Nat) (hdg : decode cc pc = .ok (.astore i, 2)) (hn : i < nL) (hp : lv_pick ((i, .ref x) :: lv.filter (fun q => !(q.1 == i) && !(q.1 + 1 == i && q.2.category == 2))) ks = lv2) (k : Rn G sh d y cc nL ret (pc + 2) lv2 rest S post) : Rn G sh d y cc nL ret pc lv (.ref x :: rest) S post := by
  intro p e s m args below meth c H locs ls hy hP hS hl
  exact lv_astore hy.1 hy.2.1 hdg hl hn rfl (fun ls2 h2 => k p e s m args below meth c H locs ls2 hy hP hS (lv_sub h2 ks hp))
end RN
section RNW
variable {p : Program} {l : Launch} {e : Env} {R : Room} {s : State} {m : MethodId} {args : Array Value} {below : List Frame} {meth : Method} {c : Code} {H : Heap} {locs : List Loc} {cells slots : Nat} {Q : State → Prop} {cc : ByteArray} {pc : Nat} {ls : Array Slot} {rest : List Value}
theorem lv_iinc6 (hexec : p.tables.exec = Jvm.exec) (hb : c.code = cc) {i nL k : Nat} {n : Int} {x v : Int32} {lv lv' : List (Nat × Value)} (hdg : decode cc pc = .ok (.iinc i n, 6)) (h : lv_has ls nL lv) (hk : lv[k]? = some (i, .int x)) (hv : x + Int32.ofInt n = v) (hn : i < nL) (hl : (i, Value.int v) :: lv.filter (fun q => !(q.1 == i) && !(q.1 + 1 == i && q.2.category == 2)) = lv')
    (kk : ∀ ls' : Array Slot, lv_has ls' nL lv' → W p l e R s m args below meth c H locs cells slots Q (F0 m (pc + 6) ls' rest)) : W p l e R s m args below meth c H locs cells slots Q (F0 m pc ls rest) := by
  subst hv
  have hg := lv_at h k hk
  obtain ⟨ls', e', h'⟩ := lv_store1 (v := .int (x + Int32.ofInt n)) h hn rfl
  intro T hT X
  obtain ⟨t, a, b⟩ := kk ls' (hl ▸ h') T hT X
  refine ⟨t, ?_, b⟩
  jvm_step X.here [X.here.top, ↓top_set X.here.top, hexec, hb, hdg, hg, e']
  exact a
/-- behind a call by its contract -/
theorem W_call {G : Gx} {sh : List ShE} {post' : Option Value → St → Prop} {st0 : List Value} {a : Array Value} (hr : va_Run p l e R s m args below meth c H locs cells slots 0 0 (F0 m pc ls st0) rest (Qc_ G sh post' a) (A_ G sh)) (hS : va_S (A_ G sh) s.heap H locs)
    (kk : ∀ (r : Option Value) (S' : St) (H1 : Heap) (locs1 : List Loc), post' r S' → va_P (D_ G) vwCl (pic_ G sh S') H1 → va_S (A_ G sh) s.heap H1 locs1 → W p l e R s m args below meth c H1 locs1 cells slots Q (F0 m (pc + 3) ls (r.toList ++ rest))) : W p l e R s m args below meth c H locs cells slots Q (F0 m pc ls st0) := by
  intro T hT X
  obtain ⟨v, st₀, t, T', L, h0, X', hL, e1, e2, ⟨⟨r, u, hv, hp, hb⟩, hz, hk⟩, st⟩ := hr T hT X
  cases hv
  rw [h0] at hz hk
  obtain ⟨t2, a1, b1⟩ := kk v u T'.heap (locs ++ L) hp (by rw [e1]; exact hb)
    ⟨Nat.le_trans hS.1 (by rw [e1]; exact hz), fun q h1 h2 => by rw [e1, hk q (Nat.lt_of_lt_of_le h1 hS.1) h2]; exact hS.2.1 q h1 h2, fun q hq => by
      rcases List.mem_append.mp hq with h | h
      · exact hS.2.2 q h
      · exact hL q h⟩ T' rfl X'
  exact ⟨t2, st t2 a1, b1⟩
end RNW
section RN2
variable {G : Gx} {sh : List ShE} {d : Nat} {y : MethodName} {cc : ByteArray} {nL : Nat} {ret : Option FieldType} {pc : Nat} {lv : List (Nat × Value)} {st rest : List Value} {S : St} {post : Option Value → St → Prop}

theorem r_iinc {i : Nat} {n : Int} {x v : Int32} (lv2 : List (Nat × Value)) (q : Nat) (ks : List Nat) (hdg : decode cc pc = .ok (.iinc i n, 3)) (hq : lv[q]? = some (i, .int x)) (hv : x + Int32.ofInt n = v) (hn : i < nL) (hp : lv_pick ((i, .int v) :: lv.filter (fun q => !(q.1 == i) && !(q.1 + 1 == i && q.2.category == 2))) ks = lv2) (k : Rn G sh d y cc nL ret (pc + 3) lv2 st S post) : Rn G sh d y cc nL ret pc lv st S post := by
  intro p e s m args below meth c H locs ls hy hP hS hl
  exact lv_iinc hy.1 hy.2.1 hdg hl hq hv hn rfl (fun ls2 h2 => k p e s m args below meth c H locs ls2 hy hP hS (lv_sub h2 ks hp))
theorem r_iincw {i : Nat} {n : Int} {x v : Int32} (lv2 : List (Nat × Value)) (q : Nat) (ks : List Nat) (hdg : decode cc pc = .ok (.iinc i n, 6)) (hq : lv[q]? = some (i, .int x)) (hv : x + Int32.ofInt n = v) (hn : i < nL) (hp : lv_pick ((i, .int v) :: lv.filter (fun q => !(q.1 == i) && !(q.1 + 1 == i && q.2.category == 2))) ks = lv2) (k : Rn G sh d y cc nL ret (pc + 6) lv2 st S post) : Rn G sh d y cc nL ret pc lv st S post := by
  intro p e s m args below meth c H locs ls hy hP hS hl
  exact lv_iinc6 hy.1 hy.2.1 hdg hl hq hv hn rfl (fun ls2 h2 => k p e s m args below meth c H locs ls2 hy hP hS (lv_sub h2 ks hp))
theorem r_iadd {a b : Int32} (hdg : decode cc pc = .ok (.iadd, 1))  (k : Rn G sh d y cc nL ret (pc + 1) lv (.int (a + b) :: rest) S post) : Rn G sh d y cc nL ret pc lv (.int b :: .int a :: rest) S post := by
  intro p e s m args below meth c H locs ls hy hP hS hl
  exact lv_iadd hy.1 hy.2.1 hdg  (k p e s m args below meth c H locs ls hy hP hS hl)
theorem r_isub {a b : Int32} (hdg : decode cc pc = .ok (.isub, 1))  (k : Rn G sh d y cc nL ret (pc + 1) lv (.int (a - b) :: rest) S post) : Rn G sh d y cc nL ret pc lv (.int b :: .int a :: rest) S post := by
  intro p e s m args below meth c H locs ls hy hP hS hl
  exact lv_isub hy.1 hy.2.1 hdg  (k p e s m args below meth c H locs ls hy hP hS hl)
theorem r_imul {a b : Int32} (hdg : decode cc pc = .ok (.imul, 1))  (k : Rn G sh d y cc nL ret (pc + 1) lv (.int (a * b) :: rest) S post) : Rn G sh d y cc nL ret pc lv (.int b :: .int a :: rest) S post := by
  intro p e s m args below meth c H locs ls hy hP hS hl
  exact lv_imul hy.1 hy.2.1 hdg  (k p e s m args below meth c H locs ls hy hP hS hl)
theorem r_iand {a b : Int32} (hdg : decode cc pc = .ok (.iand, 1))  (k : Rn G sh d y cc nL ret (pc + 1) lv (.int (a &&& b) :: rest) S post) : Rn G sh d y cc nL ret pc lv (.int b :: .int a :: rest) S post := by
  intro p e s m args below meth c H locs ls hy hP hS hl
  exact lv_iand hy.1 hy.2.1 hdg  (k p e s m args below meth c H locs ls hy hP hS hl)
theorem r_ior {a b : Int32} (hdg : decode cc pc = .ok (.ior, 1))  (k : Rn G sh d y cc nL ret (pc + 1) lv (.int (a ||| b) :: rest) S post) : Rn G sh d y cc nL ret pc lv (.int b :: .int a :: rest) S post := by
  intro p e s m args below meth c H locs ls hy hP hS hl
  exact lv_ior hy.1 hy.2.1 hdg  (k p e s m args below meth c H locs ls hy hP hS hl)
theorem r_ixor {a b : Int32} (hdg : decode cc pc = .ok (.ixor, 1))  (k : Rn G sh d y cc nL ret (pc + 1) lv (.int (a ^^^ b) :: rest) S post) : Rn G sh d y cc nL ret pc lv (.int b :: .int a :: rest) S post := by
  intro p e s m args below meth c H locs ls hy hP hS hl
  exact lv_ixor hy.1 hy.2.1 hdg  (k p e s m args below meth c H locs ls hy hP hS hl)
theorem r_ladd {a b : Int64} (hdg : decode cc pc = .ok (.ladd, 1))  (k : Rn G sh d y cc nL ret (pc + 1) lv (.long (a + b) :: rest) S post) : Rn G sh d y cc nL ret pc lv (.long b :: .long a :: rest) S post := by
  intro p e s m args below meth c H locs ls hy hP hS hl
  exact lv_ladd hy.1 hy.2.1 hdg  (k p e s m args below meth c H locs ls hy hP hS hl)
theorem r_lsub {a b : Int64} (hdg : decode cc pc = .ok (.lsub, 1))  (k : Rn G sh d y cc nL ret (pc + 1) lv (.long (a - b) :: rest) S post) : Rn G sh d y cc nL ret pc lv (.long b :: .long a :: rest) S post := by
  intro p e s m args below meth c H locs ls hy hP hS hl
  exact lv_lsub hy.1 hy.2.1 hdg  (k p e s m args below meth c H locs ls hy hP hS hl)
theorem r_land {a b : Int64} (hdg : decode cc pc = .ok (.land, 1))  (k : Rn G sh d y cc nL ret (pc + 1) lv (.long (a &&& b) :: rest) S post) : Rn G sh d y cc nL ret pc lv (.long b :: .long a :: rest) S post := by
  intro p e s m args below meth c H locs ls hy hP hS hl
  exact lv_land hy.1 hy.2.1 hdg  (k p e s m args below meth c H locs ls hy hP hS hl)
theorem r_lor {a b : Int64} (hdg : decode cc pc = .ok (.lor, 1))  (k : Rn G sh d y cc nL ret (pc + 1) lv (.long (a ||| b) :: rest) S post) : Rn G sh d y cc nL ret pc lv (.long b :: .long a :: rest) S post := by
  intro p e s m args below meth c H locs ls hy hP hS hl
  exact lv_lor hy.1 hy.2.1 hdg  (k p e s m args below meth c H locs ls hy hP hS hl)
theorem r_lxor {a b : Int64} (hdg : decode cc pc = .ok (.lxor, 1))  (k : Rn G sh d y cc nL ret (pc + 1) lv (.long (a ^^^ b) :: rest) S post) : Rn G sh d y cc nL ret pc lv (.long b :: .long a :: rest) S post := by
  intro p e s m args below meth c H locs ls hy hP hS hl
  exact lv_lxor hy.1 hy.2.1 hdg  (k p e s m args below meth c H locs ls hy hP hS hl)
theorem r_idiv {a b : Int32} (hdg : decode cc pc = .ok (.idiv, 1)) (hne : ¬ b = 0) (k : Rn G sh d y cc nL ret (pc + 1) lv (.int (a / b) :: rest) S post) : Rn G sh d y cc nL ret pc lv (.int b :: .int a :: rest) S post := by
  intro p e s m args below meth c H locs ls hy hP hS hl
  exact lv_idiv hy.1 hy.2.1 hdg hne (k p e s m args below meth c H locs ls hy hP hS hl)
theorem r_irem {a b : Int32} (hdg : decode cc pc = .ok (.irem, 1)) (hne : ¬ b = 0) (k : Rn G sh d y cc nL ret (pc + 1) lv (.int (a - a / b * b) :: rest) S post) : Rn G sh d y cc nL ret pc lv (.int b :: .int a :: rest) S post := by
  intro p e s m args below meth c H locs ls hy hP hS hl
  exact lv_irem hy.1 hy.2.1 hdg hne (k p e s m args below meth c H locs ls hy hP hS hl)
theorem r_ineg {a : Int32} (hdg : decode cc pc = .ok (.ineg, 1))  (k : Rn G sh d y cc nL ret (pc + 1) lv (.int (-a) :: rest) S post) : Rn G sh d y cc nL ret pc lv (.int a :: rest) S post := by
  intro p e s m args below meth c H locs ls hy hP hS hl
  exact lv_ineg hy.1 hy.2.1 hdg  (k p e s m args below meth c H locs ls hy hP hS hl)
theorem r_ishl {a b : Int32} (hdg : decode cc pc = .ok (.ishl, 1))  (k : Rn G sh d y cc nL ret (pc + 1) lv (.int (a <<< (b &&& 31)) :: rest) S post) : Rn G sh d y cc nL ret pc lv (.int b :: .int a :: rest) S post := by
  intro p e s m args below meth c H locs ls hy hP hS hl
  exact lv_ishl hy.1 hy.2.1 hdg  (k p e s m args below meth c H locs ls hy hP hS hl)
theorem r_ishr {a b : Int32} (hdg : decode cc pc = .ok (.ishr, 1))  (k : Rn G sh d y cc nL ret (pc + 1) lv (.int (a >>> (b &&& 31)) :: rest) S post) : Rn G sh d y cc nL ret pc lv (.int b :: .int a :: rest) S post := by
  intro p e s m args below meth c H locs ls hy hP hS hl
  exact lv_ishr hy.1 hy.2.1 hdg  (k p e s m args below meth c H locs ls hy hP hS hl)
theorem r_iushr {a b : Int32} (hdg : decode cc pc = .ok (.iushr, 1))  (k : Rn G sh d y cc nL ret (pc + 1) lv (.int ((a.toUInt32 >>> (b.toUInt32 &&& Int32.toUInt32 31)).toInt32) :: rest) S post) : Rn G sh d y cc nL ret pc lv (.int b :: .int a :: rest) S post := by
  intro p e s m args below meth c H locs ls hy hP hS hl
  exact lv_iushr hy.1 hy.2.1 hdg rfl (k p e s m args below meth c H locs ls hy hP hS hl)
theorem r_lshl {a : Int64} {b : Int32} (hdg : decode cc pc = .ok (.lshl, 1))  (k : Rn G sh d y cc nL ret (pc + 1) lv (.long (a <<< (b.toInt64 &&& 63)) :: rest) S post) : Rn G sh d y cc nL ret pc lv (.int b :: .long a :: rest) S post := by
  intro p e s m args below meth c H locs ls hy hP hS hl
  exact lv_lshl hy.1 hy.2.1 hdg rfl (k p e s m args below meth c H locs ls hy hP hS hl)
theorem r_lshr {a : Int64} {b : Int32} (hdg : decode cc pc = .ok (.lshr, 1))  (k : Rn G sh d y cc nL ret (pc + 1) lv (.long (a >>> (b.toInt64 &&& 63)) :: rest) S post) : Rn G sh d y cc nL ret pc lv (.int b :: .long a :: rest) S post := by
  intro p e s m args below meth c H locs ls hy hP hS hl
  exact lv_lshr hy.1 hy.2.1 hdg rfl (k p e s m args below meth c H locs ls hy hP hS hl)
theorem r_lushr {a : Int64} {b : Int32} (hdg : decode cc pc = .ok (.lushr, 1))  (k : Rn G sh d y cc nL ret (pc + 1) lv (.long ((a.toUInt64 >>> (b.toInt64.toUInt64 &&& Int64.toUInt64 63)).toInt64) :: rest) S post) : Rn G sh d y cc nL ret pc lv (.int b :: .long a :: rest) S post := by
  intro p e s m args below meth c H locs ls hy hP hS hl
  exact lv_lushr hy.1 hy.2.1 hdg rfl (k p e s m args below meth c H locs ls hy hP hS hl)
theorem r_i2l {a : Int32} (hdg : decode cc pc = .ok (.i2l, 1))  (k : Rn G sh d y cc nL ret (pc + 1) lv (.long a.toInt64 :: rest) S post) : Rn G sh d y cc nL ret pc lv (.int a :: rest) S post := by
  intro p e s m args below meth c H locs ls hy hP hS hl
  exact lv_i2l hy.1 hy.2.1 hdg rfl (k p e s m args below meth c H locs ls hy hP hS hl)
theorem r_l2i {a : Int64} (hdg : decode cc pc = .ok (.l2i, 1))  (k : Rn G sh d y cc nL ret (pc + 1) lv (.int a.toInt32 :: rest) S post) : Rn G sh d y cc nL ret pc lv (.long a :: rest) S post := by
  intro p e s m args below meth c H locs ls hy hP hS hl
  exact lv_l2i hy.1 hy.2.1 hdg rfl (k p e s m args below meth c H locs ls hy hP hS hl)
theorem r_i2b {a : Int32} (hdg : decode cc pc = .ok (.i2b, 1))  (k : Rn G sh d y cc nL ret (pc + 1) lv (.int a.toInt8.toInt32 :: rest) S post) : Rn G sh d y cc nL ret pc lv (.int a :: rest) S post := by
  intro p e s m args below meth c H locs ls hy hP hS hl
  exact lv_i2b hy.1 hy.2.1 hdg rfl (k p e s m args below meth c H locs ls hy hP hS hl)
theorem r_i2s {a : Int32} (hdg : decode cc pc = .ok (.i2s, 1))  (k : Rn G sh d y cc nL ret (pc + 1) lv (.int a.toInt16.toInt32 :: rest) S post) : Rn G sh d y cc nL ret pc lv (.int a :: rest) S post := by
  intro p e s m args below meth c H locs ls hy hP hS hl
  exact lv_i2s hy.1 hy.2.1 hdg rfl (k p e s m args below meth c H locs ls hy hP hS hl)
theorem r_lcmp {a b : Int64} (hdg : decode cc pc = .ok (.lcmp, 1))  (k : Rn G sh d y cc nL ret (pc + 1) lv (.int (lg_cmp a b) :: rest) S post) : Rn G sh d y cc nL ret pc lv (.long b :: .long a :: rest) S post := by
  intro p e s m args below meth c H locs ls hy hP hS hl
  exact W.lcmp hy.1 hy.2.1 hdg  (k p e s m args below meth c H locs ls hy hP hS hl)
theorem r_dup {v : Value} (hdg : decode cc pc = .ok (.dup, 1)) (hc : v.category = 1) (k : Rn G sh d y cc nL ret (pc + 1) lv (v :: v :: rest) S post) : Rn G sh d y cc nL ret pc lv (v :: rest) S post := by
  intro p e s m args below meth c H locs ls hy hP hS hl
  exact lv_dup hy.1 hy.2.1 hdg hc (k p e s m args below meth c H locs ls hy hP hS hl)
theorem r_pop {v : Value} (hdg : decode cc pc = .ok (.pop, 1)) (hc : v.category = 1) (k : Rn G sh d y cc nL ret (pc + 1) lv rest S post) : Rn G sh d y cc nL ret pc lv (v :: rest) S post := by
  intro p e s m args below meth c H locs ls hy hP hS hl
  exact lv_pop hy.1 hy.2.1 hdg hc (k p e s m args below meth c H locs ls hy hP hS hl)
theorem r_dup2_11 {v u : Value} (hdg : decode cc pc = .ok (.dup2, 1)) (hc : v.category = 1) (hu : u.category = 1) (k : Rn G sh d y cc nL ret (pc + 1) lv (v :: u :: v :: u :: rest) S post) : Rn G sh d y cc nL ret pc lv (v :: u :: rest) S post := by
  intro p e s m args below meth c H locs ls hy hP hS hl
  exact lv_dup2_11 hy.1 hy.2.1 hdg hc hu (k p e s m args below meth c H locs ls hy hP hS hl)
theorem r_dup2_2 {v : Value} (hdg : decode cc pc = .ok (.dup2, 1)) (hc : v.category = 2) (k : Rn G sh d y cc nL ret (pc + 1) lv (v :: v :: rest) S post) : Rn G sh d y cc nL ret pc lv (v :: rest) S post := by
  intro p e s m args below meth c H locs ls hy hP hS hl
  exact lv_dup2_2 hy.1 hy.2.1 hdg hc (k p e s m args below meth c H locs ls hy hP hS hl)
theorem r_if_eq {a : Int32} {off : Int} (tgt : Nat) (hdg : decode cc pc = .ok (.ifCond .eq off, 3)) (ht : (pc : Int) + off = (tgt : Int)) (kt : a = 0 → Rn G sh d y cc nL ret tgt lv rest S post) (kf : ¬ a = 0 → Rn G sh d y cc nL ret (pc + 3) lv rest S post) : Rn G sh d y cc nL ret pc lv (.int a :: rest) S post := by
  intro p e s m args below meth c H locs ls hy hP hS hl
  exact lv_if_eq hy.1 hy.2.1 hdg ht (fun q => kt q p e s m args below meth c H locs ls hy hP hS hl) (fun q => kf q p e s m args below meth c H locs ls hy hP hS hl)
theorem r_if_ne {a : Int32} {off : Int} (tgt : Nat) (hdg : decode cc pc = .ok (.ifCond .ne off, 3)) (ht : (pc : Int) + off = (tgt : Int)) (kt : ¬ a = 0 → Rn G sh d y cc nL ret tgt lv rest S post) (kf : a = 0 → Rn G sh d y cc nL ret (pc + 3) lv rest S post) : Rn G sh d y cc nL ret pc lv (.int a :: rest) S post := by
  intro p e s m args below meth c H locs ls hy hP hS hl
  exact lv_if_ne hy.1 hy.2.1 hdg ht (fun q => kt q p e s m args below meth c H locs ls hy hP hS hl) (fun q => kf q p e s m args below meth c H locs ls hy hP hS hl)
theorem r_if_lt {a : Int32} {off : Int} (tgt : Nat) (hdg : decode cc pc = .ok (.ifCond .lt off, 3)) (ht : (pc : Int) + off = (tgt : Int)) (kt : a < 0 → Rn G sh d y cc nL ret tgt lv rest S post) (kf : ¬ a < 0 → Rn G sh d y cc nL ret (pc + 3) lv rest S post) : Rn G sh d y cc nL ret pc lv (.int a :: rest) S post := by
  intro p e s m args below meth c H locs ls hy hP hS hl
  exact lv_if_lt hy.1 hy.2.1 hdg ht (fun q => kt q p e s m args below meth c H locs ls hy hP hS hl) (fun q => kf q p e s m args below meth c H locs ls hy hP hS hl)
theorem r_if_ge {a : Int32} {off : Int} (tgt : Nat) (hdg : decode cc pc = .ok (.ifCond .ge off, 3)) (ht : (pc : Int) + off = (tgt : Int)) (kt : 0 ≤ a → Rn G sh d y cc nL ret tgt lv rest S post) (kf : ¬ 0 ≤ a → Rn G sh d y cc nL ret (pc + 3) lv rest S post) : Rn G sh d y cc nL ret pc lv (.int a :: rest) S post := by
  intro p e s m args below meth c H locs ls hy hP hS hl
  exact lv_if_ge hy.1 hy.2.1 hdg ht (fun q => kt q p e s m args below meth c H locs ls hy hP hS hl) (fun q => kf q p e s m args below meth c H locs ls hy hP hS hl)
theorem r_if_gt {a : Int32} {off : Int} (tgt : Nat) (hdg : decode cc pc = .ok (.ifCond .gt off, 3)) (ht : (pc : Int) + off = (tgt : Int)) (kt : 0 < a → Rn G sh d y cc nL ret tgt lv rest S post) (kf : ¬ 0 < a → Rn G sh d y cc nL ret (pc + 3) lv rest S post) : Rn G sh d y cc nL ret pc lv (.int a :: rest) S post := by
  intro p e s m args below meth c H locs ls hy hP hS hl
  exact lv_if_gt hy.1 hy.2.1 hdg ht (fun q => kt q p e s m args below meth c H locs ls hy hP hS hl) (fun q => kf q p e s m args below meth c H locs ls hy hP hS hl)
theorem r_if_le {a : Int32} {off : Int} (tgt : Nat) (hdg : decode cc pc = .ok (.ifCond .le off, 3)) (ht : (pc : Int) + off = (tgt : Int)) (kt : a ≤ 0 → Rn G sh d y cc nL ret tgt lv rest S post) (kf : ¬ a ≤ 0 → Rn G sh d y cc nL ret (pc + 3) lv rest S post) : Rn G sh d y cc nL ret pc lv (.int a :: rest) S post := by
  intro p e s m args below meth c H locs ls hy hP hS hl
  exact lv_if_le hy.1 hy.2.1 hdg ht (fun q => kt q p e s m args below meth c H locs ls hy hP hS hl) (fun q => kf q p e s m args below meth c H locs ls hy hP hS hl)
theorem r_icmp_eq {a b : Int32} {off : Int} (tgt : Nat) (hdg : decode cc pc = .ok (.if_icmp .eq off, 3)) (ht : (pc : Int) + off = (tgt : Int)) (kt : a = b → Rn G sh d y cc nL ret tgt lv rest S post) (kf : ¬ a = b → Rn G sh d y cc nL ret (pc + 3) lv rest S post) : Rn G sh d y cc nL ret pc lv (.int b :: .int a :: rest) S post := by
  intro p e s m args below meth c H locs ls hy hP hS hl
  exact lv_icmp_eq hy.1 hy.2.1 hdg ht (fun q => kt q p e s m args below meth c H locs ls hy hP hS hl) (fun q => kf q p e s m args below meth c H locs ls hy hP hS hl)
theorem r_icmp_ne {a b : Int32} {off : Int} (tgt : Nat) (hdg : decode cc pc = .ok (.if_icmp .ne off, 3)) (ht : (pc : Int) + off = (tgt : Int)) (kt : ¬ a = b → Rn G sh d y cc nL ret tgt lv rest S post) (kf : a = b → Rn G sh d y cc nL ret (pc + 3) lv rest S post) : Rn G sh d y cc nL ret pc lv (.int b :: .int a :: rest) S post := by
  intro p e s m args below meth c H locs ls hy hP hS hl
  exact lv_icmp_ne hy.1 hy.2.1 hdg ht (fun q => kt q p e s m args below meth c H locs ls hy hP hS hl) (fun q => kf q p e s m args below meth c H locs ls hy hP hS hl)
theorem r_icmp_lt {a b : Int32} {off : Int} (tgt : Nat) (hdg : decode cc pc = .ok (.if_icmp .lt off, 3)) (ht : (pc : Int) + off = (tgt : Int)) (kt : a < b → Rn G sh d y cc nL ret tgt lv rest S post) (kf : ¬ a < b → Rn G sh d y cc nL ret (pc + 3) lv rest S post) : Rn G sh d y cc nL ret pc lv (.int b :: .int a :: rest) S post := by
  intro p e s m args below meth c H locs ls hy hP hS hl
  exact lv_icmp_lt hy.1 hy.2.1 hdg ht (fun q => kt q p e s m args below meth c H locs ls hy hP hS hl) (fun q => kf q p e s m args below meth c H locs ls hy hP hS hl)
theorem r_icmp_ge {a b : Int32} {off : Int} (tgt : Nat) (hdg : decode cc pc = .ok (.if_icmp .ge off, 3)) (ht : (pc : Int) + off = (tgt : Int)) (kt : b ≤ a → Rn G sh d y cc nL ret tgt lv rest S post) (kf : ¬ b ≤ a → Rn G sh d y cc nL ret (pc + 3) lv rest S post) : Rn G sh d y cc nL ret pc lv (.int b :: .int a :: rest) S post := by
  intro p e s m args below meth c H locs ls hy hP hS hl
  exact lv_icmp_ge hy.1 hy.2.1 hdg ht (fun q => kt q p e s m args below meth c H locs ls hy hP hS hl) (fun q => kf q p e s m args below meth c H locs ls hy hP hS hl)
theorem r_icmp_gt {a b : Int32} {off : Int} (tgt : Nat) (hdg : decode cc pc = .ok (.if_icmp .gt off, 3)) (ht : (pc : Int) + off = (tgt : Int)) (kt : b < a → Rn G sh d y cc nL ret tgt lv rest S post) (kf : ¬ b < a → Rn G sh d y cc nL ret (pc + 3) lv rest S post) : Rn G sh d y cc nL ret pc lv (.int b :: .int a :: rest) S post := by
  intro p e s m args below meth c H locs ls hy hP hS hl
  exact lv_icmp_gt hy.1 hy.2.1 hdg ht (fun q => kt q p e s m args below meth c H locs ls hy hP hS hl) (fun q => kf q p e s m args below meth c H locs ls hy hP hS hl)
theorem r_icmp_le {a b : Int32} {off : Int} (tgt : Nat) (hdg : decode cc pc = .ok (.if_icmp .le off, 3)) (ht : (pc : Int) + off = (tgt : Int)) (kt : a ≤ b → Rn G sh d y cc nL ret tgt lv rest S post) (kf : ¬ a ≤ b → Rn G sh d y cc nL ret (pc + 3) lv rest S post) : Rn G sh d y cc nL ret pc lv (.int b :: .int a :: rest) S post := by
  intro p e s m args below meth c H locs ls hy hP hS hl
  exact lv_icmp_le hy.1 hy.2.1 hdg ht (fun q => kt q p e s m args below meth c H locs ls hy hP hS hl) (fun q => kf q p e s m args below meth c H locs ls hy hP hS hl)
theorem r_goto {off : Int} (tgt : Nat) (hdg : decode cc pc = .ok (.goto off, 3)) (ht : (pc : Int) + off = (tgt : Int)) (k : Rn G sh d y cc nL ret tgt lv st S post) : Rn G sh d y cc nL ret pc lv st S post := by
  intro p e s m args below meth c H locs ls hy hP hS hl
  exact lv_goto hy.1 hy.2.1 hdg ht (k p e s m args below meth c H locs ls hy hP hS hl)
theorem r_tableIn {dflt lo hi : Int} {offs : Array Int} {len : Nat} {x c0 : Int32} {off : Int} (tgt : Nat) (hdg : decode cc pc = .ok (.tableswitch dflt lo hi offs, len)) (hx : x = c0) (h1 : ¬ c0.toInt < lo) (h2 : ¬ hi < c0.toInt) (ho : offs[(c0.toInt - lo).toNat]? = some off) (ht : (pc : Int) + off = (tgt : Int)) (k : Rn G sh d y cc nL ret tgt lv rest S post) : Rn G sh d y cc nL ret pc lv (.int x :: rest) S post := by
  subst hx
  intro p e s m args below meth c H locs ls hy hP hS hl
  exact lv_tableIn hy.1 hy.2.1 hdg h1 h2 ho ht (k p e s m args below meth c H locs ls hy hP hS hl)
theorem r_tableOut {dflt lo hi : Int} {offs : Array Int} {len : Nat} {x : Int32} (tgt : Nat) (hdg : decode cc pc = .ok (.tableswitch dflt lo hi offs, len)) (h : x.toInt < lo ∨ hi < x.toInt) (ht : (pc : Int) + dflt = (tgt : Int)) (k : Rn G sh d y cc nL ret tgt lv rest S post) : Rn G sh d y cc nL ret pc lv (.int x :: rest) S post := by
  intro p e s m args below meth c H locs ls hy hP hS hl
  exact lv_tableOut hy.1 hy.2.1 hdg h ht (k p e s m args below meth c H locs ls hy hP hS hl)
theorem r_ldc {idx : Nat} {v : Int32} (hc : Cond.constant y.cls idx v ∈ TB_) (hdg : decode cc pc = .ok (.ldc idx, 2)) (k : Rn G sh d y cc nL ret (pc + 2) lv (.int v :: st) S post) : Rn G sh d y cc nL ret pc lv st S post := by
  intro p e s m args below meth c H locs ls hy hP hS hl
  exact lv_ldc hy.1 hy.2.1 hy.2.2.2.2.1 (hy.2.2.2.2.2.1 _ hc) hdg (k p e s m args below meth c H locs ls hy hP hS hl)
theorem r_ldcw {idx : Nat} {v : Int32} (hc : Cond.constant y.cls idx v ∈ TB_) (hdg : decode cc pc = .ok (.ldc_w idx, 3)) (k : Rn G sh d y cc nL ret (pc + 3) lv (.int v :: st) S post) : Rn G sh d y cc nL ret pc lv st S post := by
  intro p e s m args below meth c H locs ls hy hP hS hl
  exact lv_ldcw hy.1 hy.2.1 hy.2.2.2.2.1 (hy.2.2.2.2.2.1 _ hc) hdg (k p e s m args below meth c H locs ls hy hP hS hl)
theorem r_ldc2 {idx : Nat} {v : Int64} (hc : Cond.constantLong y.cls idx v ∈ TB_) (hdg : decode cc pc = .ok (.ldc2_w idx, 3)) (k : Rn G sh d y cc nL ret (pc + 3) lv (.long v :: st) S post) : Rn G sh d y cc nL ret pc lv st S post := by
  intro p e s m args below meth c H locs ls hy hP hS hl
  exact lv_ldc2 hy.1 hy.2.1 hy.2.2.2.2.1 (hy.2.2.2.2.2.1 _ hc) hdg (k p e s m args below meth c H locs ls hy hP hS hl)
theorem r_sub (lv2 : List (Nat × Value)) (ks : List Nat) (hp : lv_pick lv ks = lv2) (k : Rn G sh d y cc nL ret pc lv2 st S post) : Rn G sh d y cc nL ret pc lv st S post := by
  intro p e s m args below meth c H locs ls hy hP hS hl
  exact k p e s m args below meth c H locs ls hy hP hS (lv_sub hl ks hp)
theorem r_getI {k j ci idx : Nat} {ks : List Nat} (h : sh[k]? = some (.inl (ci, ks))) (hj : ks[j]? = some (0)) (hf : FL_ y.cls idx ci j) (hdg : decode cc pc = .ok (.getfield idx, 3)) (kk : Rn G sh d y cc nL ret (pc + 3) lv (.int (gI_ S k j) :: rest) S post) : Rn G sh d y cc nL ret pc lv (.ref (ad_ G k) :: rest) S post := by
  intro p e s m args below meth c H locs ls hy hP hS hl
  obtain ⟨C, T, N, h1, h2, h3, h4⟩ := hf
  obtain ⟨hx, hb, hr, hml, hown, hts, hlk, hI, hK, hE⟩ := id hy
  exact va_get hx hb hts h2 hown hK hP k (pic_get h) h1 j h3 (hts _ h4) (fun _ h9 => h9) (by simp [List.getElem?_mapIdx, hj, fv_]) hdg (kk p e s m args below meth c H locs ls hy hP hS hl)
theorem r_getL {k j ci idx : Nat} {ks : List Nat} (h : sh[k]? = some (.inl (ci, ks))) (hj : ks[j]? = some (1)) (hf : FL_ y.cls idx ci j) (hdg : decode cc pc = .ok (.getfield idx, 3)) (kk : Rn G sh d y cc nL ret (pc + 3) lv (.long (gL_ S k j) :: rest) S post) : Rn G sh d y cc nL ret pc lv (.ref (ad_ G k) :: rest) S post := by
  intro p e s m args below meth c H locs ls hy hP hS hl
  obtain ⟨C, T, N, h1, h2, h3, h4⟩ := hf
  obtain ⟨hx, hb, hr, hml, hown, hts, hlk, hI, hK, hE⟩ := id hy
  exact va_get hx hb hts h2 hown hK hP k (pic_get h) h1 j h3 (hts _ h4) (fun _ h9 => h9) (by simp [List.getElem?_mapIdx, hj, fv_]) hdg (kk p e s m args below meth c H locs ls hy hP hS hl)
theorem r_getR {k j ci idx : Nat} {ks : List Nat} (h : sh[k]? = some (.inl (ci, ks))) (hj : ks[j]? = some (2)) (hf : FL_ y.cls idx ci j) (hdg : decode cc pc = .ok (.getfield idx, 3)) (kk : Rn G sh d y cc nL ret (pc + 3) lv (.ref (ad_ G (gR_ S k j)) :: rest) S post) : Rn G sh d y cc nL ret pc lv (.ref (ad_ G k) :: rest) S post := by
  intro p e s m args below meth c H locs ls hy hP hS hl
  obtain ⟨C, T, N, h1, h2, h3, h4⟩ := hf
  obtain ⟨hx, hb, hr, hml, hown, hts, hlk, hI, hK, hE⟩ := id hy
  exact va_get hx hb hts h2 hown hK hP k (pic_get h) h1 j h3 (hts _ h4) (fun _ h9 => h9) (by simp [List.getElem?_mapIdx, hj, fv_]) hdg (kk p e s m args below meth c H locs ls hy hP hS hl)
theorem r_getC {k j ci idx : Nat} {r : Nat} {ks : List Nat} (h : sh[k]? = some (.inl (ci, ks))) (hj : ks[j]? = some (r + 3)) (hf : FL_ y.cls idx ci j) (hdg : decode cc pc = .ok (.getfield idx, 3)) (kk : Rn G sh d y cc nL ret (pc + 3) lv (.ref (ad_ G r) :: rest) S post) : Rn G sh d y cc nL ret pc lv (.ref (ad_ G k) :: rest) S post := by
  intro p e s m args below meth c H locs ls hy hP hS hl
  obtain ⟨C, T, N, h1, h2, h3, h4⟩ := hf
  obtain ⟨hx, hb, hr, hml, hown, hts, hlk, hI, hK, hE⟩ := id hy
  exact va_get hx hb hts h2 hown hK hP k (pic_get h) h1 j h3 (hts _ h4) (fun _ h9 => h9) (by simp [List.getElem?_mapIdx, hj, fv_]) hdg (kk p e s m args below meth c H locs ls hy hP hS hl)
theorem r_putI {k j ci idx : Nat} {ks : List Nat} {v : Int32} (h : sh[k]? = some (.inl (ci, ks))) (hj : ks[j]? = some 0) (hf : PF_ y.cls idx ci j .int) (hdg : decode cc pc = .ok (.putfield idx, 3)) (kk : Rn G sh d y cc nL ret (pc + 3) lv rest (pI_ S k j v) post) : Rn G sh d y cc nL ret pc lv (.int v :: .ref (ad_ G k) :: rest) S post := by
  intro p e s m args below meth c H locs ls hy hP hS hl
  obtain ⟨C, T, N, ty0, h1, h2, h3, h4, h5, h6, h7, h8⟩ := hf
  obtain ⟨hx, hb, hr, hml, hown, hts, hlk, hI, hK, hE⟩ := id hy
  refine va_put hx hb hts h2 ty0 h5 h6 hown hK hP (pic_D hI S) hS k (pic_get h) h1 j h3 (hts _ h4) (fun _ h9 => h9) h7 h8 rfl rfl (by simpa using (List.getElem?_eq_some_iff.mp hj).1) hdg (fun H1 locs1 hP1 _ hS1 => ?_)
  exact kk p e s m args below meth c H1 locs1 ls hy (pic_pI h hj ▸ hP1) hS1 hl
theorem r_putL {k j ci idx : Nat} {ks : List Nat} {v : Int64} (h : sh[k]? = some (.inl (ci, ks))) (hj : ks[j]? = some 1) (hf : PF_ y.cls idx ci j .long) (hdg : decode cc pc = .ok (.putfield idx, 3)) (kk : Rn G sh d y cc nL ret (pc + 3) lv rest (pL_ S k j v) post) : Rn G sh d y cc nL ret pc lv (.long v :: .ref (ad_ G k) :: rest) S post := by
  intro p e s m args below meth c H locs ls hy hP hS hl
  obtain ⟨C, T, N, ty0, h1, h2, h3, h4, h5, h6, h7, h8⟩ := hf
  obtain ⟨hx, hb, hr, hml, hown, hts, hlk, hI, hK, hE⟩ := id hy
  refine va_put hx hb hts h2 ty0 h5 h6 hown hK hP (pic_D hI S) hS k (pic_get h) h1 j h3 (hts _ h4) (fun _ h9 => h9) h7 h8 rfl rfl (by simpa using (List.getElem?_eq_some_iff.mp hj).1) hdg (fun H1 locs1 hP1 _ hS1 => ?_)
  exact kk p e s m args below meth c H1 locs1 ls hy (pic_pL h hj ▸ hP1) hS1 hl
theorem r_putZ {k j ci idx : Nat} {ks : List Nat} {v : Int32} (h : sh[k]? = some (.inl (ci, ks))) (hj : ks[j]? = some 0) (hf : PF_ y.cls idx ci j .boolean) (hn : narrow .boolean (.int v) = .int v ∧ fits .boolean (.int v) = true) (hdg : decode cc pc = .ok (.putfield idx, 3)) (kk : Rn G sh d y cc nL ret (pc + 3) lv rest (pI_ S k j v) post) : Rn G sh d y cc nL ret pc lv (.int v :: .ref (ad_ G k) :: rest) S post := by
  intro p e s m args below meth c H locs ls hy hP hS hl
  obtain ⟨C, T, N, ty0, h1, h2, h3, h4, h5, h6, h7, h8⟩ := hf
  obtain ⟨hx, hb, hr, hml, hown, hts, hlk, hI, hK, hE⟩ := id hy
  refine va_put hx hb hts h2 ty0 h5 h6 hown hK hP (pic_D hI S) hS k (pic_get h) h1 j h3 (hts _ h4) (fun _ h9 => h9) h7 h8 hn.1 hn.2 (by simpa using (List.getElem?_eq_some_iff.mp hj).1) hdg (fun H1 locs1 hP1 _ hS1 => ?_)
  exact kk p e s m args below meth c H1 locs1 ls hy (pic_pI h hj ▸ hP1) hS1 hl
theorem r_putR {k j ci idx v : Nat} {ks : List Nat} {C0 : String} (h : sh[k]? = some (.inl (ci, ks))) (hj : ks[j]? = some 2) (hf : PF_ y.cls idx ci j (.object C0)) (hdg : decode cc pc = .ok (.putfield idx, 3)) (kk : Rn G sh d y cc nL ret (pc + 3) lv rest (pR_ S k j v) post) : Rn G sh d y cc nL ret pc lv (.ref (ad_ G v) :: .ref (ad_ G k) :: rest) S post := by
  intro p e s m args below meth c H locs ls hy hP hS hl
  obtain ⟨C, T, N, ty0, h1, h2, h3, h4, h5, h6, h7, h8⟩ := hf
  obtain ⟨hx, hb, hr, hml, hown, hts, hlk, hI, hK, hE⟩ := id hy
  refine va_put hx hb hts h2 ty0 h5 h6 hown hK hP (pic_D hI S) hS k (pic_get h) h1 j h3 (hts _ h4) (fun _ h9 => h9) h7 h8 rfl rfl (by simpa using (List.getElem?_eq_some_iff.mp hj).1) hdg (fun H1 locs1 hP1 _ hS1 => ?_)
  exact kk p e s m args below meth c H1 locs1 ls hy (pic_pR h hj ▸ hP1) hS1 hl
theorem r_iaload {k n : Nat} {g : Nat → Nat} {i : Int32} {x : Int32} (h : sh[k]? = some (.inr (0, n, g))) (hr : rI_ S k n i = some x) (hdg : decode cc pc = .ok (.iaload, 1)) (kk : Rn G sh d y cc nL ret (pc + 1) lv (.int x :: rest) S post) : Rn G sh d y cc nL ret pc lv (.int i :: .ref (ad_ G k) :: rest) S post := by
  obtain ⟨hin, rfl⟩ := rI_some hr
  intro p e s m args below meth c H locs ls hy hP hS hl
  exact va_iald hy.1 hy.2.1 hy.2.2.2.2.2.2.2.2.1 hP k 0 (pic_get h) rfl hin hdg (kk p e s m args below meth c H locs ls hy hP hS hl)
theorem r_zaload {k n : Nat} {g : Nat → Nat} {i : Int32} {x : Int32} (h : sh[k]? = some (.inr (1, n, g))) (hr : rI_ S k n i = some x) (hdg : decode cc pc = .ok (.baload, 1)) (kk : Rn G sh d y cc nL ret (pc + 1) lv (.int x :: rest) S post) : Rn G sh d y cc nL ret pc lv (.int i :: .ref (ad_ G k) :: rest) S post := by
  obtain ⟨hin, rfl⟩ := rI_some hr
  intro p e s m args below meth c H locs ls hy hP hS hl
  exact va_zald hy.1 hy.2.1 hy.2.2.2.2.2.2.2.2.1 hP k 1 (pic_get h) rfl hin hdg (kk p e s m args below meth c H locs ls hy hP hS hl)
theorem r_laload {k n : Nat} {g : Nat → Nat} {i : Int32} {x : Int64} (h : sh[k]? = some (.inr (2, n, g))) (hr : rL_ S k n i = some x) (hdg : decode cc pc = .ok (.laload, 1)) (kk : Rn G sh d y cc nL ret (pc + 1) lv (.long x :: rest) S post) : Rn G sh d y cc nL ret pc lv (.int i :: .ref (ad_ G k) :: rest) S post := by
  obtain ⟨hin, rfl⟩ := rL_some hr
  intro p e s m args below meth c H locs ls hy hP hS hl
  exact va_lald hy.1 hy.2.1 hy.2.2.2.2.2.2.2.2.1 hP k 2 (pic_get h) rfl hin hdg (kk p e s m args below meth c H locs ls hy hP hS hl)
theorem r_aaload {k n t : Nat} {g : Nat → Nat} {i : Int32} {x : Nat} {C0 : String} (h : sh[k]? = some (.inr (t + 3, n, g))) (ht : (tys_ G)[t + 3]? = some (cy_ G (t + 3), .object C0)) (hr : rR_ n g i = some x) (hdg : decode cc pc = .ok (.aaload, 1)) (kk : Rn G sh d y cc nL ret (pc + 1) lv (.ref (ad_ G x) :: rest) S post) : Rn G sh d y cc nL ret pc lv (.int i :: .ref (ad_ G k) :: rest) S post := by
  obtain ⟨hin, rfl⟩ := rR_some hr
  intro p e s m args below meth c H locs ls hy hP hS hl
  exact va_aldq hy.1 hy.2.1 hy.2.2.2.2.2.2.2.2.1 hP k (t + 3) (pic_get h) ht hin hdg (kk p e s m args below meth c H locs ls hy hP hS hl)
theorem r_iastore {k n : Nat} {g : Nat → Nat} {i : Int32} {v : Int32} {S1 : St} (h : sh[k]? = some (.inr (0, n, g))) (hr : wI_ S k n i v = some S1) (hdg : decode cc pc = .ok (.iastore, 1)) (kk : Rn G sh d y cc nL ret (pc + 1) lv rest S1 post) : Rn G sh d y cc nL ret pc lv (.int v :: .int i :: .ref (ad_ G k) :: rest) S post := by
  obtain ⟨hin, rfl⟩ := wI_some hr
  intro p e s m args below meth c H locs ls hy hP hS hl
  refine va_iast hy.1 hy.2.1 hy.2.2.2.2.2.2.2.2.1 hP (pic_D hy.2.2.2.2.2.2.2.1 S) hS k 0 (pic_get h) rfl hin hdg (fun H1 locs1 hP1 _ hS1 => ?_)
  exact kk p e s m args below meth c H1 locs1 ls hy (pic_pA (Or.inl rfl) h ▸ hP1) hS1 hl
theorem r_zastore {k n : Nat} {g : Nat → Nat} {i : Int32} {v : Int32} {S1 : St} (h : sh[k]? = some (.inr (1, n, g))) (hr : wZ_ S k n i v = some S1) (hdg : decode cc pc = .ok (.bastore, 1)) (kk : Rn G sh d y cc nL ret (pc + 1) lv rest S1 post) : Rn G sh d y cc nL ret pc lv (.int v :: .int i :: .ref (ad_ G k) :: rest) S post := by
  obtain ⟨hin, rfl⟩ := wZ_some hr
  intro p e s m args below meth c H locs ls hy hP hS hl
  refine va_zast hy.1 hy.2.1 hy.2.2.2.2.2.2.2.2.1 hP (pic_D hy.2.2.2.2.2.2.2.1 S) hS k 1 (pic_get h) rfl hin hdg (fun H1 locs1 hP1 _ hS1 => ?_)
  exact kk p e s m args below meth c H1 locs1 ls hy (pic_pA (Or.inr rfl) h ▸ hP1) hS1 hl
theorem r_lastore {k n : Nat} {g : Nat → Nat} {i : Int32} {v : Int64} {S1 : St} (h : sh[k]? = some (.inr (2, n, g))) (hr : wL_ S k n i v = some S1) (hdg : decode cc pc = .ok (.lastore, 1)) (kk : Rn G sh d y cc nL ret (pc + 1) lv rest S1 post) : Rn G sh d y cc nL ret pc lv (.long v :: .int i :: .ref (ad_ G k) :: rest) S post := by
  obtain ⟨hin, rfl⟩ := wL_some hr
  intro p e s m args below meth c H locs ls hy hP hS hl
  refine va_last hy.1 hy.2.1 hy.2.2.2.2.2.2.2.2.1 hP (pic_D hy.2.2.2.2.2.2.2.1 S) hS k 2 (pic_get h) rfl hin hdg (fun H1 locs1 hP1 _ hS1 => ?_)
  exact kk p e s m args below meth c H1 locs1 ls hy (pic_pB h ▸ hP1) hS1 hl
theorem r_ireturn {v : Int32} (hret : ret = some .int) (hdg : decode cc pc = .ok (.ireturn, 1)) (hp : post (some (.int v)) S) : Rn G sh d y cc nL ret pc lv [.int v] S post := by
  intro p e s m args below meth c H locs ls hy hP hS hl
  have hlocks : meth.locks = false := hy.2.2.2.2.2.2.1
  exact W.iret hy.1 hy.2.1 (hy.2.2.1.trans hret) (fun t ht hW => ⟨⟨_, S, rfl, hp, by rw [ht]; exact hP⟩, hS.F ht⟩) hS.2.2 hdg
theorem r_zreturn {v : Int32} (hret : ret = some .boolean) (hn : narrow .boolean (.int v) = .int v) (hdg : decode cc pc = .ok (.ireturn, 1)) (hp : post (some (.int v)) S) : Rn G sh d y cc nL ret pc lv [.int v] S post := by
  intro p e s m args below meth c H locs ls hy hP hS hl
  have hlocks : meth.locks = false := hy.2.2.2.2.2.2.1
  exact W.zret hy.1 hy.2.1 (hy.2.2.1.trans hret) hn (fun t ht hW => ⟨⟨_, S, rfl, hp, by rw [ht]; exact hP⟩, hS.F ht⟩) hS.2.2 hdg
theorem r_lreturn {v : Int64} (hret : ret = some .long) (hdg : decode cc pc = .ok (.lreturn, 1)) (hp : post (some (.long v)) S) : Rn G sh d y cc nL ret pc lv [.long v] S post := by
  intro p e s m args below meth c H locs ls hy hP hS hl
  have hlocks : meth.locks = false := hy.2.2.2.2.2.2.1
  exact W.lret hy.1 hy.2.1 (hy.2.2.1.trans hret) (fun t ht hW => ⟨⟨_, S, rfl, hp, by rw [ht]; exact hP⟩, hS.F ht⟩) hS.2.2 hdg
theorem r_return (hret : ret = none) (hdg : decode cc pc = .ok (.return_, 1)) (hp : post none S) : Rn G sh d y cc nL ret pc lv [] S post := by
  intro p e s m args below meth c H locs ls hy hP hS hl
  have hlocks : meth.locks = false := hy.2.2.2.2.2.2.1
  exact W.vret hy.1 hy.2.1 (hy.2.2.1.trans hret) (fun t ht hW => ⟨⟨_, S, rfl, hp, by rw [ht]; exact hP⟩, hS.F ht⟩) hS.2.2 hdg
/-- the contract out of the walk -/
theorem MR_of {av : List Value} {n : Nat} (hc : CB_ y cc nL ret n) (hlen : (lg_sl av).length ≤ nL) (lv2 : List (Nat × Value)) (hlv : lv_args 0 av = lv2) (h : Rn G sh d y cc nL ret 0 lv2 [] S post) : MR_ G sh d y cc nL ret av S post := by
  intro hI
  subst hlv
  refine Met.ofW (cc := cc) (maxL := nL) (ret := ret) hc.2.2.2.1 rfl ?_
  intro p e s m args below meth c s₁ B hml hv
  obtain ⟨rfl, hP, hK, hE⟩ := hv
  have hts := atoms_spec (ws := .code y cc nL ret :: TB_) B.pre
  rw [lg_entry_eq]
  exact h p e s m _ below meth c s.heap [] _ ⟨B.exec, B.bytes, B.returns, hml, findClass_of_methodNamed B.named, fun w hw => hts w (List.mem_cons_of_mem _ hw), B.notSynchronized, hI, hK, hE⟩ hP va_S.rf (lv_entry av hlen)
theorem blind_ {av : List Value} : FrameBlind (va_Pc av (fun U => va_P (D_ G) vwCl (pic_ G sh S) U.heap ∧ va_K (D_ G) vwCl (tys_ G) U ∧ Ex_ G sh U U.heap)) := by
  intro a U g mk q
  obtain ⟨q0, qP, qK, qE⟩ := q
  exact ⟨q0, qP, va_K.moved (u := U) (U := U.calling g mk a) (Vm.Alike.refl U.vm) qK, qE.same rfl⟩
theorem room_ {d d' nL' : Nat} (hd : d' + 1 ≤ d) (hn : nL' ≤ 45) : (rm_ d').frames + 1 ≤ (rm_ d).frames ∧ 8 + (nL' + 11) + (rm_ d').locals ≤ (rm_ d).locals := by
  simp only [rm_]; omega
theorem r_callS {d' idx nL' n : Nat} {y' : MethodName} {cc' : ByteArray} {ret' : Option FieldType} {As : List Value} {post' : Option Value → St → Prop} (hd : d' + 1 ≤ d) (hM : MR_ G sh d' y' cc' nL' ret' As S post') (hc : CB_ y' cc' nL' ret' n) (hl1 : Cond.methodLink y.cls idx y' ∈ TB_) (hl2 : Cond.static y' ∈ TB_) (hn : As.length = n) (hst : st = As.reverse ++ rest) (hrs : (rest.map fun v => v.category).sum ≤ 8) (hdg : decode cc pc = .ok (.invokestatic idx, 3)) (kk : ∀ r S', post' r S' → Rn G sh d y cc nL ret (pc + 3) lv (r.toList ++ rest) S' post) : Rn G sh d y cc nL ret pc lv st S post := by
  intro p e s m args below meth c H locs ls hy hP hS hl
  obtain ⟨hx, hb, hr, hml, hown, hts, hlk, hI, hK, hE⟩ := id hy
  refine W_call (va_runS (As := As) (rest := rest) ⟨hx, hb, hml, hown, hts⟩ (hM hI) ⟨callB_of n hts (TB_in hc.1) rfl rfl rfl (hts _ hc.2.1) (hts _ hl1) hc.2.2.2.2 (room_ hd hc.2.2.1), hts _ hl2⟩ ⟨blind_, fun U hU hW => ⟨rfl, by rw [hU]; exact hP, va_K.moved hW.alike hK, ?_⟩⟩ rfl hn hl.1 hst (lv_room hrs) hdg ⟨Nat.le_refl _, Nat.le_refl _⟩) hS (fun r S' H1 locs1 hp hP1 hS1 => kk r S' hp p e s m args below meth c H1 locs1 ls hy hP1 hS1 hl)
  rw [hU]
  exact (hE.kept hS.2.1).warm hW
theorem r_callSN {d' idx nL' n : Nat} {y' : MethodName} {cc' : ByteArray} {ret' : Option FieldType} {As : List Value} {post' : Option Value → St → Prop} (hd : d' + 1 ≤ d) (hM : MR_ G sh d' y' cc' nL' ret' As S post') (hc : CB_ y' cc' nL' ret' n) (hl1 : (y.cls, idx, y') ∈ nest_) (hl2 : Cond.static y' ∈ TB_) (hn : As.length = n) (hst : st = As.reverse ++ rest) (hrs : (rest.map fun v => v.category).sum ≤ 8) (hdg : decode cc pc = .ok (.invokestatic idx, 3)) (kk : ∀ r S', post' r S' → Rn G sh d y cc nL ret (pc + 3) lv (r.toList ++ rest) S' post) : Rn G sh d y cc nL ret pc lv st S post := by
  intro p e s m args below meth c H locs ls hy hP hS hl
  obtain ⟨hx, hb, hr, hml, hown, hts, hlk, hI, hK, hE⟩ := id hy
  refine W_call (va_runSN (host := "BurlPipes") (As := As) (rest := rest) ⟨hx, hb, hml, hown, hts⟩ (hM hI) ⟨va_cnB n hts (TB_in hc.1) rfl rfl rfl (hE.1 _ hl1) (hts _ hc.2.1) hc.2.2.2.2 (room_ hd hc.2.2.1), hts _ hl2, trivial⟩ ⟨blind_, fun U hU hW => ⟨rfl, by rw [hU]; exact hP, va_K.moved hW.alike hK, ?_⟩⟩ rfl hn hl.1 hst (lv_room hrs) hdg ⟨Nat.le_refl _, Nat.le_refl _⟩) hS (fun r S' H1 locs1 hp hP1 hS1 => kk r S' hp p e s m args below meth c H1 locs1 ls hy hP1 hS1 hl)
  rw [hU]
  exact (hE.kept hS.2.1).warm hW
theorem r_callV {d' idx nL' n k ci : Nat} {ks : List Nat} {y' : MethodName} {cc' : ByteArray} {ret' : Option FieldType} {As : List Value} {post' : Option Value → St → Prop} {q : vw_C} (hd : d' + 1 ≤ d) (hM : MR_ G sh d' y' cc' nL' ret' (.ref (ad_ G k) :: As) S post') (h : sh[k]? = some (.inl (ci, ks))) (hq : vwCl[ci]? = some q) (hqc : q.1 = y'.cls) (hc : CB_ y' cc' nL' ret' n) (hl1 : Cond.methodLink y.cls idx y' ∈ TB_) (hl2 : Cond.instanceMethod y' ∈ TB_) (hl3 : Cond.selects y'.cls y' y' ∈ TB_) (hn : As.length = n) (hst : st = As.reverse ++ .ref (ad_ G k) :: rest) (hrs : (rest.map fun v => v.category).sum ≤ 8) (hdg : decode cc pc = .ok (.invokevirtual idx, 3)) (kk : ∀ r S', post' r S' → Rn G sh d y cc nL ret (pc + 3) lv (r.toList ++ rest) S' post) : Rn G sh d y cc nL ret pc lv st S post := by
  intro p e s m args below meth c H locs ls hy hP hS hl
  obtain ⟨hx, hb, hr, hml, hown, hts, hlk, hI, hK, hE⟩ := id hy
  refine W_call (va_runV (C := y'.cls) (As := As) (rest := rest) ⟨hx, hb, hml, hown, hts⟩ (hM hI) ⟨callB_of n hts (TB_in hc.1) rfl rfl rfl (hts _ hc.2.1) (hts _ hl1) hc.2.2.2.2 (room_ hd hc.2.2.1), hts _ hl2, hts _ hl3⟩ ⟨blind_, hqc ▸ va_recv hK hP hq (pic_get h), fun U hU hW => ⟨rfl, by rw [hU]; exact hP, va_K.moved hW.alike hK, ?_⟩⟩ rfl hn hl.1 hst (lv_room hrs) hdg ⟨Nat.le_refl _, Nat.le_refl _⟩) hS (fun r S' H1 locs1 hp hP1 hS1 => kk r S' hp p e s m args below meth c H1 locs1 ls hy hP1 hS1 hl)
  rw [hU]
  exact (hE.kept hS.2.1).warm hW
end RN2
