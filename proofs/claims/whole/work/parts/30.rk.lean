/-! CONSTRUCTORS: Rk = 'from pc the constructor comes to its end'; the world is a list of cells that grows -/
def t3_ (cI cZ cJ : ClassId) : List (ClassId × FieldType) := [(cI, .int), (cZ, .boolean), (cJ, .long)]
/-- links of nest mates, classes of rows of objects -/
def Nx_ (s : State) : Prop := (∀ q ∈ nest_, va_Nw (.methodLinkNest q.1 q.2.1 q.2.2 "BurlPipes") s) ∧ va_AO "BurlPipes$Board" s ∧ va_AO "BurlPipes$Sheet" s
theorem Nx_.warm {s U : State} (hW : s.WarmedH U.vm) (h : Nx_ s) : Nx_ U := ⟨fun q hq => va_Nw.warmM hW (h.1 q hq), h.2.1.moved hW.alike, h.2.2.moved hW.alike⟩
theorem Nx_.same {s U : State} (hv : U.vm = s.vm) (h : Nx_ s) : Nx_ U := ⟨fun q hq => va_Nw.same rfl hv.symm (h.1 q hq), h.2.1.moved (by rw [hv]; exact Vm.Alike.refl _), h.2.2.moved (by rw [hv]; exact Vm.Alike.refl _)⟩
def rk_ (d mc ms : Nat) : Room := { frames := d, cells := mc, slots := ms, locals := 64 * d }
def Qk_ (D : va_G) (ws0 : va_W) (post : va_W → List (ClassId × FieldType) → Prop) : Array Value → State → Outcome → State → Prop := fun _ st oc t =>
  (∃ (w : va_W) (ty : List (ClassId × FieldType)), oc = .returned none ∧ post w ty ∧ va_P D vwCl w t.heap ∧ va_K D vwCl ty t ∧ va_D (va_A ws0 st.heap.size) w) ∧ va_F (va_A ws0 st.heap.size) st t
def Hk_ (y : MethodName) (cc : ByteArray) (nL : Nat) (p : Program) (s : State) (m : MethodId) (args : Array Value) (meth : Method) (c : Code) : Prop :=
  p.tables.exec = Jvm.exec ∧ c.code = cc ∧ meth.sig.returnType = none ∧ c.maxLocals = nL ∧ s.vm.findClass y.cls = some m.cls ∧ (∀ w ∈ TB_, w.before args s = true) ∧ meth.locks = false ∧ meth.name = y.name ∧ Nx_ s
def Rk (l : Launch) (D : va_G) (d mc ms : Nat) (y : MethodName) (cc : ByteArray) (nL : Nat) (ws0 : va_W) (post : va_W → List (ClassId × FieldType) → Prop) (pc : Nat) (lv : List (Nat × Value)) (st : List Value) (ws : va_W) (tys : List (ClassId × FieldType)) (n1 n2 : Nat) : Prop :=
  ∀ (p : Program) (e : Env) (s : State) (m : MethodId) (args : Array Value) (below : List Frame) (meth : Method) (c : Code) (H : Heap) (locs : List Loc) (ls : Array Slot),
    Hk_ y cc nL p s m args meth c → va_K D vwCl tys s → va_P D vwCl ws H → va_D (va_A ws0 s.heap.size) ws → va_S (va_A ws0 s.heap.size) s.heap H locs → lv_has ls nL lv →
    W p l e (rk_ d mc ms) s m args below meth c H locs n1 n2 (MQ below (Qk_ D ws0 post) args s mc ms (va_A ws0 s.heap.size)) (F0 m pc ls st)
def Mk_ (l : Launch) (D : va_G) (d mc ms : Nat) (y : MethodName) (cc : ByteArray) (nL : Nat) (av : List Value) (ws0 : va_W) (tys : List (ClassId × FieldType)) (post : va_W → List (ClassId × FieldType) → Prop) : Prop :=
  ∀ sz : Nat, Met l y (.code y cc nL none :: TB_) (rk_ d mc ms) (va_Pc av (fun U => U.heap.size = sz ∧ va_P D vwCl ws0 U.heap ∧ va_K D vwCl tys U ∧ va_D (fun _ => True) ws0 ∧ Nx_ U)) (Qk_ D ws0 post) mc ms (va_A ws0 sz)
section RK
variable {l : Launch} {D : va_G} {d mc ms : Nat} {y : MethodName} {cc : ByteArray} {nL : Nat} {ws0 : va_W} {post : va_W → List (ClassId × FieldType) → Prop} {pc : Nat} {lv : List (Nat × Value)} {st rest : List Value} {ws : va_W} {tys : List (ClassId × FieldType)} {n1 n2 : Nat}
theorem Mk_of {av : List Value} {n : Nat} (hc : CB_ y cc nL none n) (hlen : (lg_sl av).length ≤ nL) (lv2 : List (Nat × Value)) (hlv : lv_args 0 av = lv2) (h : Rk l D d mc ms y cc nL ws0 post 0 lv2 [] ws0 tys 0 0) : Mk_ l D d mc ms y cc nL av ws0 tys post := by
  intro sz
  subst hlv
  refine Met.ofW (cc := cc) (maxL := nL) (ret := none) hc.2.2.2.1 rfl ?_
  intro p e s m args below meth c s₁ B hml hv
  obtain ⟨rfl, hsz, hP, hK, hD, hN⟩ := hv
  subst hsz
  have hts := atoms_spec (ws := .code y cc nL none :: TB_) B.pre
  rw [lg_entry_eq]
  exact h p e s m _ below meth c s.heap [] _ ⟨B.exec, B.bytes, B.returns, hml, findClass_of_methodNamed B.named, fun w hw => hts w (List.mem_cons_of_mem _ hw), B.notSynchronized, (name_of_methodNamed B.named B.method).1, hN⟩ hK hP hD.self va_S.rf (lv_entry av hlen)
theorem k_iconst {n : Int} {v : Int32} (hdg : decode cc pc = .ok (.iconst n, 1)) (hv : Int32.ofInt n = v) (k : Rk l D d mc ms y cc nL ws0 post (pc + 1) lv (.int v :: rest) ws tys n1 n2) : Rk l D d mc ms y cc nL ws0 post pc lv rest ws tys n1 n2 := by
  intro p e s m args below meth c H locs ls hy hK hP hD hS hl
  exact lv_iconst hy.1 hy.2.1 hdg hv (k p e s m args below meth c H locs ls hy hK hP hD hS hl)
theorem k_bipush {n : Int} {v : Int32} (hdg : decode cc pc = .ok (.bipush n, 2)) (hv : (Int8.ofInt n).toInt32 = v) (k : Rk l D d mc ms y cc nL ws0 post (pc + 2) lv (.int v :: rest) ws tys n1 n2) : Rk l D d mc ms y cc nL ws0 post pc lv rest ws tys n1 n2 := by
  intro p e s m args below meth c H locs ls hy hK hP hD hS hl
  exact lv_bipush hy.1 hy.2.1 hdg hv (k p e s m args below meth c H locs ls hy hK hP hD hS hl)
theorem k_sipush {n : Int} {v : Int32} (hdg : decode cc pc = .ok (.sipush n, 3)) (hv : (Int16.ofInt n).toInt32 = v) (k : Rk l D d mc ms y cc nL ws0 post (pc + 3) lv (.int v :: rest) ws tys n1 n2) : Rk l D d mc ms y cc nL ws0 post pc lv rest ws tys n1 n2 := by
  intro p e s m args below meth c H locs ls hy hK hP hD hS hl
  exact lv_sipush hy.1 hy.2.1 hdg hv (k p e s m args below meth c H locs ls hy hK hP hD hS hl)
theorem k_lconst {n : Fin 2} {v : Int64} (hdg : decode cc pc = .ok (.lconst n, 1)) (hv : Int64.ofNat (n : Nat) = v) (k : Rk l D d mc ms y cc nL ws0 post (pc + 1) lv (.long v :: rest) ws tys n1 n2) : Rk l D d mc ms y cc nL ws0 post pc lv rest ws tys n1 n2 := by
  intro p e s m args below meth c H locs ls hy hK hP hD hS hl
  exact lv_lconst hy.1 hy.2.1 hdg hv (k p e s m args below meth c H locs ls hy hK hP hD hS hl)
theorem k_ldc {idx : Nat} {v : Int32} (hc : Cond.constant y.cls idx v ∈ TB_) (hdg : decode cc pc = .ok (.ldc idx, 2)) (k : Rk l D d mc ms y cc nL ws0 post (pc + 2) lv (.int v :: rest) ws tys n1 n2) : Rk l D d mc ms y cc nL ws0 post pc lv rest ws tys n1 n2 := by
  intro p e s m args below meth c H locs ls hy hK hP hD hS hl
  exact lv_ldc hy.1 hy.2.1 hy.2.2.2.2.1 (hy.2.2.2.2.2.1 _ hc) hdg (k p e s m args below meth c H locs ls hy hK hP hD hS hl)
theorem k_aload_n {k0 : Fin 4} {i x : Nat} (q : Nat) (hdg : decode cc pc = .ok (.aload_n k0, 1)) (hi : (k0 : Nat) = i) (hq : lv[q]? = some (i, .ref x)) (k : Rk l D d mc ms y cc nL ws0 post (pc + 1) lv (.ref x :: rest) ws tys n1 n2) : Rk l D d mc ms y cc nL ws0 post pc lv rest ws tys n1 n2 := by
  intro p e s m args below meth c H locs ls hy hK hP hD hS hl
  exact lv_aload_n hy.1 hy.2.1 hdg hi (lv_at hl q hq) (k p e s m args below meth c H locs ls hy hK hP hD hS hl)
theorem k_iload_n {k0 : Fin 4} {i : Nat} {x : Int32} (q : Nat) (hdg : decode cc pc = .ok (.iload_n k0, 1)) (hi : (k0 : Nat) = i) (hq : lv[q]? = some (i, .int x)) (k : Rk l D d mc ms y cc nL ws0 post (pc + 1) lv (.int x :: rest) ws tys n1 n2) : Rk l D d mc ms y cc nL ws0 post pc lv rest ws tys n1 n2 := by
  intro p e s m args below meth c H locs ls hy hK hP hD hS hl
  exact lv_iload_n hy.1 hy.2.1 hdg hi (lv_at hl q hq) (k p e s m args below meth c H locs ls hy hK hP hD hS hl)
theorem k_istore_n {k0 : Fin 4} {i : Nat} {x : Int32} (lv2 : List (Nat × Value)) (ks : List Nat) (hdg : decode cc pc = .ok (.istore_n k0, 1)) (hi : (k0 : Nat) = i) (hn : i < nL) (hp : lv_pick ((i, .int x) :: lv.filter (fun q => !(q.1 == i) && !(q.1 + 1 == i && q.2.category == 2))) ks = lv2) (k : Rk l D d mc ms y cc nL ws0 post (pc + 1) lv2 rest ws tys n1 n2) : Rk l D d mc ms y cc nL ws0 post pc lv (.int x :: rest) ws tys n1 n2 := by
  intro p e s m args below meth c H locs ls hy hK hP hD hS hl
  exact lv_istore_n hy.1 hy.2.1 hdg hi hl hn rfl (fun ls2 h2 => k p e s m args below meth c H locs ls2 hy hK hP hD hS (lv_sub h2 ks hp))
theorem k_iinc {i : Nat} {n : Int} {x v : Int32} (lv2 : List (Nat × Value)) (q : Nat) (ks : List Nat) (hdg : decode cc pc = .ok (.iinc i n, 3)) (hq : lv[q]? = some (i, .int x)) (hv : x + Int32.ofInt n = v) (hn : i < nL) (hp : lv_pick ((i, .int v) :: lv.filter (fun q => !(q.1 == i) && !(q.1 + 1 == i && q.2.category == 2))) ks = lv2) (k : Rk l D d mc ms y cc nL ws0 post (pc + 3) lv2 st ws tys n1 n2) : Rk l D d mc ms y cc nL ws0 post pc lv st ws tys n1 n2 := by
  intro p e s m args below meth c H locs ls hy hK hP hD hS hl
  exact lv_iinc hy.1 hy.2.1 hdg hl hq hv hn rfl (fun ls2 h2 => k p e s m args below meth c H locs ls2 hy hK hP hD hS (lv_sub h2 ks hp))
theorem k_dup {v : Value} (hdg : decode cc pc = .ok (.dup, 1)) (hc : v.category = 1) (k : Rk l D d mc ms y cc nL ws0 post (pc + 1) lv (v :: v :: rest) ws tys n1 n2) : Rk l D d mc ms y cc nL ws0 post pc lv (v :: rest) ws tys n1 n2 := by
  intro p e s m args below meth c H locs ls hy hK hP hD hS hl
  exact lv_dup hy.1 hy.2.1 hdg hc (k p e s m args below meth c H locs ls hy hK hP hD hS hl)
theorem k_goto {off : Int} (tgt : Nat) (hdg : decode cc pc = .ok (.goto off, 3)) (ht : (pc : Int) + off = (tgt : Int)) (k : Rk l D d mc ms y cc nL ws0 post tgt lv st ws tys n1 n2) : Rk l D d mc ms y cc nL ws0 post pc lv st ws tys n1 n2 := by
  intro p e s m args below meth c H locs ls hy hK hP hD hS hl
  exact lv_goto hy.1 hy.2.1 hdg ht (k p e s m args below meth c H locs ls hy hK hP hD hS hl)
theorem k_icmp_ge_t {a b : Int32} {off : Int} (tgt : Nat) (hdg : decode cc pc = .ok (.if_icmp .ge off, 3)) (ht : (pc : Int) + off = (tgt : Int)) (hc : b ≤ a) (k : Rk l D d mc ms y cc nL ws0 post tgt lv rest ws tys n1 n2) : Rk l D d mc ms y cc nL ws0 post pc lv (.int b :: .int a :: rest) ws tys n1 n2 := by
  intro p e s m args below meth c H locs ls hy hK hP hD hS hl
  exact lv_icmp_ge hy.1 hy.2.1 hdg ht (fun _ => k p e s m args below meth c H locs ls hy hK hP hD hS hl) (fun q => absurd hc q)
theorem k_icmp_ge_f {a b : Int32} {off : Int} {tgt : Nat} (hdg : decode cc pc = .ok (.if_icmp .ge off, 3)) (ht : (pc : Int) + off = (tgt : Int)) (hc : ¬ b ≤ a) (k : Rk l D d mc ms y cc nL ws0 post (pc + 3) lv rest ws tys n1 n2) : Rk l D d mc ms y cc nL ws0 post pc lv (.int b :: .int a :: rest) ws tys n1 n2 := by
  intro p e s m args below meth c H locs ls hy hK hP hD hS hl
  exact lv_icmp_ge hy.1 hy.2.1 hdg ht (fun q => absurd q hc) (fun _ => k p e s m args below meth c H locs ls hy hK hP hD hS hl)
theorem k_icmp_ne_t {a b : Int32} {off : Int} (tgt : Nat) (hdg : decode cc pc = .ok (.if_icmp .ne off, 3)) (ht : (pc : Int) + off = (tgt : Int)) (hc : ¬ a = b) (k : Rk l D d mc ms y cc nL ws0 post tgt lv rest ws tys n1 n2) : Rk l D d mc ms y cc nL ws0 post pc lv (.int b :: .int a :: rest) ws tys n1 n2 := by
  intro p e s m args below meth c H locs ls hy hK hP hD hS hl
  exact lv_icmp_ne hy.1 hy.2.1 hdg ht (fun _ => k p e s m args below meth c H locs ls hy hK hP hD hS hl) (fun q => absurd q hc)
theorem k_icmp_ne_f {a b : Int32} {off : Int} {tgt : Nat} (hdg : decode cc pc = .ok (.if_icmp .ne off, 3)) (ht : (pc : Int) + off = (tgt : Int)) (hc : a = b) (k : Rk l D d mc ms y cc nL ws0 post (pc + 3) lv rest ws tys n1 n2) : Rk l D d mc ms y cc nL ws0 post pc lv (.int b :: .int a :: rest) ws tys n1 n2 := by
  intro p e s m args below meth c H locs ls hy hK hP hD hS hl
  exact lv_icmp_ne hy.1 hy.2.1 hdg ht (fun q => absurd hc q) (fun _ => k p e s m args below meth c H locs ls hy hK hP hD hS hl)
theorem k_obj {idx a : Nat} (hd : 1 ≤ d) (hl1 : Cond.methodLink y.cls idx objectInit ∈ TB_) (hl2 : Cond.instanceMethod objectInit ∈ TB_) (hl3 : Cond.code objectInit ⟨#[0xb1]⟩ 1 none ∈ TB_) (hrs : (rest.map fun v => v.category).sum ≤ 8) (hdg : decode cc pc = .ok (.invokespecial idx, 3)) (k : Rk l D d mc ms y cc nL ws0 post (pc + 3) lv rest ws tys n1 n2) : Rk l D d mc ms y cc nL ws0 post pc lv (.ref a :: rest) ws tys n1 n2 := by
  intro p e s m args below meth c H locs ls hy hK hP hD hS hl
  refine W.objInit hy.1 hy.2.1 hy.2.2.2.2.1 (hy.2.2.2.2.2.1 _ hl1) (hy.2.2.2.2.2.1 _ hl2) (hy.2.2.2.2.2.1 _ hl3) rfl (by rw [hy.2.2.2.1]; exact hl.1) rfl hdg (show 1 ≤ d from hd) (show 2 * 0 + _ + 12 ≤ 64 * d by omega) ?_
  exact k p e s m args below meth c H locs ls hy hK hP hD hS hl
theorem k_get {ci idx a : Nat} (q0 k : Nat) {fs : List Value} {v : Value} (he : ws[q0]? = some (a, .inr (ci, fs))) (hv : fs[k]? = some v) (hf : FL_ y.cls idx ci k) (hdg : decode cc pc = .ok (.getfield idx, 3)) (kk : Rk l D d mc ms y cc nL ws0 post (pc + 3) lv (v :: rest) ws tys n1 n2) : Rk l D d mc ms y cc nL ws0 post pc lv (.ref a :: rest) ws tys n1 n2 := by
  intro p e s m args below meth c H locs ls hy hK hP hD hS hl
  obtain ⟨C, T, N, h1, h2, h3, h4⟩ := hf
  exact va_get hy.1 hy.2.1 hy.2.2.2.2.2.1 h2 hy.2.2.2.2.1 hK hP q0 he h1 k h3 (hy.2.2.2.2.2.1 _ h4) (fun _ h9 => h9) hv hdg (kk p e s m args below meth c H locs ls hy hK hP hD hS hl)
theorem k_put {ci idx a : Nat} (q0 k : Nat) {fs : List Value} {v : Value} {ty : FieldType} (ws2 : va_W) (he : ws[q0]? = some (a, .inr (ci, fs))) (hf : PF_ y.cls idx ci k ty) (hn : narrow ty v = v) (hfit : fits ty v = true) (hl0 : k < fs.length) (hw : ws.set q0 (a, .inr (ci, fs.set k v)) = ws2) (hdg : decode cc pc = .ok (.putfield idx, 3)) (kk : Rk l D d mc ms y cc nL ws0 post (pc + 3) lv rest ws2 tys n1 n2) : Rk l D d mc ms y cc nL ws0 post pc lv (v :: .ref a :: rest) ws tys n1 n2 := by
  subst hw
  intro p e s m args below meth c H locs ls hy hK hP hD hS hl
  obtain ⟨C, T, N, ty0, h1, h2, h3, h4, h5, h6, h7, h8⟩ := hf
  exact va_put hy.1 hy.2.1 hy.2.2.2.2.2.1 h2 ty0 h5 h6 hy.2.2.2.2.1 hK hP hD hS q0 he h1 k h3 (hy.2.2.2.2.2.1 _ h4) (fun _ h9 => h9) h7 h8 hn hfit hl0 hdg (fun H1 locs1 hP1 hD1 hS1 => kk p e s m args below meth c H1 locs1 ls hy hK hP1 hD1 hS1 hl)
/-- a final field in a constructor -/
def PFF_ (own : String) (idx ci j : Nat) (ty : FieldType) : Prop := ∃ (C : String) (T : u_T) (N : Nat) (ty0 : Nat → FieldType), vwCl[ci]? = some (C, T, N) ∧ (∀ w ∈ u_ws C T N, w ∈ TB_) ∧ j < N ∧ Cond.fieldLink own idx (T j).1 (T j).2.1 (T j).2.2.1 ∈ TB_ ∧ (∀ k, k < N → parseFieldDescriptor (T k).2.2.1 = some (ty0 k)) ∧ (∀ a, a < N → ∀ b, b < N → a ≠ b → (T a).2.1 ≠ (T b).2.1) ∧ (T j).2.2.2 = true ∧ parseFieldDescriptor (T j).2.2.1 = some ty ∧ (T j).1 = own
theorem k_putF {ci idx a : Nat} (q0 k : Nat) {fs : List Value} {v : Value} {ty : FieldType} (ws2 : va_W) (he : ws[q0]? = some (a, .inr (ci, fs))) (hf : PFF_ y.cls idx ci k ty) (hn : narrow ty v = v) (hfit : fits ty v = true) (hl0 : k < fs.length) (hin : y.name = "<init>") (hw : ws.set q0 (a, .inr (ci, fs.set k v)) = ws2) (hdg : decode cc pc = .ok (.putfield idx, 3)) (kk : Rk l D d mc ms y cc nL ws0 post (pc + 3) lv rest ws2 tys n1 n2) : Rk l D d mc ms y cc nL ws0 post pc lv (v :: .ref a :: rest) ws tys n1 n2 := by
  subst hw
  intro p e s m args below meth c H locs ls hy hK hP hD hS hl
  obtain ⟨C, T, N, ty0, h1, h2, h3, h4, h5, h6, h7, h8, h9⟩ := hf
  exact va_putF hy.1 hy.2.1 hy.2.2.2.2.2.1 h2 ty0 h5 h6 hy.2.2.2.2.1 hK hP hD hS q0 he h1 k h3 (hy.2.2.2.2.2.1 _ h4) (fun _ h9 => h9) h7 (hy.2.2.2.2.2.2.2.1.trans hin) h9 h8 hn hfit hl0 hdg (fun H1 locs1 hP1 hD1 hS1 => kk p e s m args below meth c H1 locs1 ls hy hK hP1 hD1 hS1 hl)
theorem k_newa {atype : ArrayType} {ty : FieldType} {cA : ClassId} {n : Int32} {N' : Nat} {a0 : vp_A} (t0 : Nat) (ht : tys[t0]? = some (cA, ty)) (hpr : ∀ C, ty ≠ .object C) (harr : Cond.arrayClass (newarray.typeOf atype) ∈ TB_) (hty : newarray.typeOf atype = ty) (ha : ∀ cA : ClassId, vp_cell cA a0 = arrV cA N' (fun _ => defaultValue ty)) (hn : ¬ n < 0) (hN : n.toNatClampNeg = N') (hbytes : N' * componentBytes ty ≤ 536870912) (h1 : n1 + 1 ≤ mc) (h2 : n2 + N' ≤ ms) (hdg : decode cc pc = .ok (.newarray atype, 2)) (kk : ∀ q : Nat, Rk l D d mc ms y cc nL ws0 post (pc + 2) lv (.ref q :: rest) (ws ++ [(q, .inl (cA, a0))]) tys (n1 + 1) (n2 + N')) : Rk l D d mc ms y cc nL ws0 post pc lv (.int n :: rest) ws tys n1 n2 := by
  intro p e s m args below meth c H locs ls hy hK hP hD hS hl
  refine va_newa hy.1 hy.2.1 (hy.2.2.2.2.2.1 _ harr) hty hK hP hD hS (fun q h => Or.inr h) ha hn hN hbytes h1 h2 hdg (fun q cA2 H1 hK1 hP1 hD1 hS1 => ?_)
  have e1 := (hK.2 t0 _ ht).2
  have e2 := (hK1.2 tys.length (cA2, ty) (by simp)).2
  have : cA2 = cA := by
    cases ty with
    | object C => exact absurd rfl (hpr C)
    | _ => exact Option.some.inj (e2.symm.trans e1)
  subst this
  exact kk q p e s m args below meth c H1 locs ls hy hK hP1 hD1 hS1 hl
theorem k_newq {C : String} {idx : Nat} {n : Int32} {N' : Nat} (hcl : Cond.classLink y.cls idx C ∈ TB_) (hC : C = "BurlPipes$Board" ∨ C = "BurlPipes$Sheet") (hn : ¬ n < 0) (hN : n.toNatClampNeg = N') (hbytes : N' * 4 ≤ 536870912) (h1 : n1 + 1 ≤ mc) (h2 : n2 + N' ≤ ms) (hdg : decode cc pc = .ok (.anewarray idx, 3)) (kk : ∀ (q : Nat) (cA : ClassId), Rk l D d mc ms y cc nL ws0 post (pc + 3) lv (.ref q :: rest) (ws ++ [(q, .inl (cA, N', .inr (.inr (.inr (.inr (fun _ => none))))))]) (tys ++ [(cA, .object C)]) (n1 + 1) (n2 + N')) : Rk l D d mc ms y cc nL ws0 post pc lv (.int n :: rest) ws tys n1 n2 := by
  intro p e s m args below meth c H locs ls hy hK hP hD hS hl
  have hao : va_AO C s := by
    rcases hC with rfl | rfl
    · exact hy.2.2.2.2.2.2.2.2.2.1
    · exact hy.2.2.2.2.2.2.2.2.2.2
  exact va_newq hy.1 hy.2.1 hy.2.2.2.2.1 (hy.2.2.2.2.2.1 _ hcl) hao hK hP hD hS (fun q h => Or.inr h) hn hN hbytes h1 h2 hdg (fun q cA H1 hK1 hP1 hD1 hS1 => kk q cA p e s m args below meth c H1 locs ls hy hK1 hP1 hD1 hS1 hl)
theorem k_new {C : String} {T : u_T} {N ci idx : Nat} {fs : List Value} (ty : Nat → FieldType) (hin : ∀ w ∈ u_ws C T N, w ∈ TB_) (hty : ∀ k, k < N → parseFieldDescriptor (T k).2.2.1 = some (ty k)) (hcl : Cond.classLink y.cls idx C ∈ TB_) (hinst : Cond.instantiable C N ∈ TB_) (hini : Cond.initialized C ∈ TB_) (hc : vwCl[ci]? = some (C, T, N)) (hfs : ∀ j, j < N → defaultValue (ty j) = vp_V fs j) (h1 : n1 + 1 ≤ mc) (h2 : n2 + N ≤ ms) (hdg : decode cc pc = .ok (.new idx, 3)) (kk : ∀ q : Nat, Rk l D d mc ms y cc nL ws0 post (pc + 3) lv (.ref q :: rest) (ws ++ [(q, .inr (ci, fs))]) tys (n1 + 1) (n2 + N)) : Rk l D d mc ms y cc nL ws0 post pc lv rest ws tys n1 n2 := by
  intro p e s m args below meth c H locs ls hy hK hP hD hS hl
  exact va_new hy.1 hy.2.1 hy.2.2.2.2.2.1 hin ty hty hy.2.2.2.2.1 (hy.2.2.2.2.2.1 _ hcl) (hy.2.2.2.2.2.1 _ hinst) (hy.2.2.2.2.2.1 _ hini) hK hP hD hS (fun q h => Or.inr h) hc hfs h1 h2 hdg (fun q H1 hP1 hD1 hS1 => kk q p e s m args below meth c H1 locs ls hy hK hP1 hD1 hS1 hl)
theorem k_iastore {cA : ClassId} {n a : Nat} {f : Nat → Int32} {i x : Int32} (q0 t0 : Nat) (ws2 : va_W) (ha : ws[q0]? = some (a, .inl (cA, n, .inl f))) (ht : tys[t0]? = some (cA, .int)) (hin : vp_in i n) (hw : ws.set q0 (a, .inl (cA, n, .inl (upd f i.toNatClampNeg x))) = ws2) (hdg : decode cc pc = .ok (.iastore, 1)) (kk : Rk l D d mc ms y cc nL ws0 post (pc + 1) lv rest ws2 tys n1 n2) : Rk l D d mc ms y cc nL ws0 post pc lv (.int x :: .int i :: .ref a :: rest) ws tys n1 n2 := by
  subst hw
  intro p e s m args below meth c H locs ls hy hK hP hD hS hl
  exact va_iast hy.1 hy.2.1 hK hP hD hS q0 t0 ha ht hin hdg (fun H1 locs1 hP1 hD1 hS1 => kk p e s m args below meth c H1 locs1 ls hy hK hP1 hD1 hS1 hl)
theorem k_iaload {cA : ClassId} {n a : Nat} {f : Nat → Int32} {i v : Int32} (q0 t0 : Nat) (ha : ws[q0]? = some (a, .inl (cA, n, .inl f))) (ht : tys[t0]? = some (cA, .int)) (hin : vp_in i n) (hv : f i.toNatClampNeg = v) (hdg : decode cc pc = .ok (.iaload, 1)) (kk : Rk l D d mc ms y cc nL ws0 post (pc + 1) lv (.int v :: rest) ws tys n1 n2) : Rk l D d mc ms y cc nL ws0 post pc lv (.int i :: .ref a :: rest) ws tys n1 n2 := by
  subst hv
  intro p e s m args below meth c H locs ls hy hK hP hD hS hl
  exact va_iald hy.1 hy.2.1 hK hP q0 t0 ha ht hin hdg (kk p e s m args below meth c H locs ls hy hK hP hD hS hl)
theorem k_aastore {cA : ClassId} {n a v ci : Nat} {f : Nat → Option Nat} {i : Int32} {r : vw_C} {vs : List Value} (q0 t0 qk : Nat) (ws2 : va_W) (ha : ws[q0]? = some (a, .inl (cA, n, .inr (.inr (.inr (.inr f)))))) (ht : tys[t0]? = some (cA, .object r.1)) (hv : ws[qk]? = some (v, .inr (ci, vs))) (hc : vwCl[ci]? = some r) (hin : vp_in i n) (hw : ws.set q0 (a, .inl (cA, n, .inr (.inr (.inr (.inr (va_up f i.toNatClampNeg (some v))))))) = ws2) (hdg : decode cc pc = .ok (.aastore, 1)) (kk : Rk l D d mc ms y cc nL ws0 post (pc + 1) lv rest ws2 tys n1 n2) : Rk l D d mc ms y cc nL ws0 post pc lv (.ref v :: .int i :: .ref a :: rest) ws tys n1 n2 := by
  subst hw
  intro p e s m args below meth c H locs ls hy hK hP hD hS hl
  exact va_astq hy.1 hy.2.1 hK hP hD hS q0 t0 qk ci ha ht hv hc hin hdg (fun H1 locs1 hP1 hD1 hS1 => kk p e s m args below meth c H1 locs1 ls hy hK hP1 hD1 hS1 hl)
theorem k_return (hdg : decode cc pc = .ok (.return_, 1)) (h1 : n1 = mc) (h2 : n2 = ms) (hp : post ws tys) : Rk l D d mc ms y cc nL ws0 post pc lv [] ws tys n1 n2 := by
  subst h1; subst h2
  intro p e s m args below meth c H locs ls hy hK hP hD hS hl
  have hlocks : meth.locks = false := hy.2.2.2.2.2.2.1
  exact W.vret hy.1 hy.2.1 hy.2.2.1 (fun t ht hW => ⟨⟨ws, tys, rfl, hp, by rw [ht]; exact hP, va_K.moved hW.alike hK, hD⟩, hS.F ht⟩) hS.2.2 hdg
theorem k_ws (ws2 : va_W) (hw : ws = ws2) (k : Rk l D d mc ms y cc nL ws0 post pc lv st ws2 tys n1 n2) : Rk l D d mc ms y cc nL ws0 post pc lv st ws tys n1 n2 := hw ▸ k
theorem split_C (a b : va_W) : ((List.range b.length).map (· + a.length)).map (fun i => (a ++ b)[i]?) = b.map some := by
  apply List.ext_getElem?
  intro i
  simp only [List.getElem?_map, List.getElem?_range]
  by_cases h : i < b.length
  · simp [h, List.getElem?_append_right]
  · simp [h, Nat.not_lt.mp h]
theorem split_R (a b : va_W) : (List.range a.length).map (fun i => (a ++ b)[i]?) = a.map some := by
  apply List.ext_getElem?
  intro i
  simp only [List.getElem?_map, List.getElem?_range]
  by_cases h : i < a.length
  · simp [h, List.getElem?_append_left]
  · simp [h, Nat.not_lt.mp h]
theorem nd_range : ∀ n : Nat, va_nd (List.range n) = true → True := fun _ _ => trivial
/-- behind a call that made its own cells: the others stand as they stood -/
theorem join_app {A0 : Nat → Prop} {a wc w1 : va_W} {H H1 : Heap} (hP : va_P D vwCl (a ++ wc) H) (hD : va_D A0 (a ++ wc)) (hk : ∀ q : Nat, q < H.size → ¬ va_A wc H.size q → H1[q]? = H[q]?) (hF : ∀ q, va_A wc H.size q → A0 q) (hP1 : va_P D vwCl w1 H1) (hD1 : va_D (va_A wc H.size) w1) : va_P D vwCl (a ++ w1) H1 ∧ va_D A0 (a ++ w1) := by
  have at1 : ∀ (k : Nat) (q : Nat × va_E), a[k]? = some q → (a ++ wc)[k]? = some q := fun k q h => by rw [List.getElem?_append_left (List.getElem?_eq_some_iff.mp h).1]; exact h
  have at2 : ∀ (k : Nat) (q : Nat × va_E), wc[k]? = some q → (a ++ wc)[a.length + k]? = some q := fun k q h => by rw [List.getElem?_append_right (Nat.le_add_right _ _)]; simpa using h
  have apart : ∀ (k : Nat) (q : Nat × va_E), a[k]? = some q → q.1 < H.size ∧ ¬ va_A wc H.size q.1 := by
    intro k q hq
    have hl := (hP k q (at1 k q hq)).lt
    refine ⟨hl, fun h => ?_⟩
    rcases h with ⟨k2, e, h⟩ | h
    · have := hD.1 k (a.length + k2) q (q.1, e) (at1 k q hq) (at2 k2 _ h) rfl
      have := (List.getElem?_eq_some_iff.mp hq).1
      omega
    · omega
  refine ⟨va_P.app (fun k q hq => ?_) hP1, va_D.app ⟨fun i j p q hp hq he => hD.1 i j p q (at1 i p hp) (at1 j q hq) he, fun k q hq => hD.2 k q (at1 k q hq)⟩ (hD1.weaken (fun k q _ h => hF q.1 h)) (fun i j x z hx hz hxz => ?_)⟩
  · obtain ⟨g1, g2⟩ := apart k q hq
    exact (hP k q (at1 k q hq)).kept (hk q.1 g1 g2)
  · exact (apart i x hx).2 (by rw [hxz]; exact hD1.2 j z hz)
theorem blind_k {av : List Value} {sz : Nat} {w0 : va_W} {ty : List (ClassId × FieldType)} : FrameBlind (va_Pc av (fun U => U.heap.size = sz ∧ va_P D vwCl w0 U.heap ∧ va_K D vwCl ty U ∧ va_D (fun _ => True) w0 ∧ Nx_ U)) := by
  intro a U g mk q
  obtain ⟨q0, q1, qP, qK, qD, qN⟩ := q
  exact ⟨q0, q1, qP, va_K.moved (u := U) (U := U.calling g mk a) (Vm.Alike.refl U.vm) qK, qD, qN.same rfl⟩
theorem W_callk {p : Program} {e : Env} {R : Room} {s : State} {m : MethodId} {args : Array Value} {below : List Frame} {meth : Method} {c : Code} {H : Heap} {locs : List Loc} {cells slots mc' ms' : Nat} {Q : State → Prop} {ls : Array Slot} {A0 : Nat → Prop} {wp wc : va_W} {post' : va_W → List (ClassId × FieldType) → Prop} {st0 : List Value} {a : Array Value} (hr : va_Run p l e R s m args below meth c H locs cells slots mc' ms' (F0 m pc ls st0) rest (Qk_ D wc post' a) (va_A wc H.size)) (hP : va_P D vwCl (wp ++ wc) H) (hD : va_D A0 (wp ++ wc)) (hS : va_S A0 s.heap H locs) (hF : ∀ q, va_A wc H.size q → A0 q)
    (kk : ∀ (w : va_W) (ty : List (ClassId × FieldType)) (H1 : Heap) (locs1 : List Loc), post' w ty → va_K D vwCl ty s → va_P D vwCl (wp ++ w) H1 → va_D A0 (wp ++ w) → va_S A0 s.heap H1 locs1 → W p l e R s m args below meth c H1 locs1 (cells + mc') (slots + ms') Q (F0 m (pc + 3) ls rest)) : W p l e R s m args below meth c H locs cells slots Q (F0 m pc ls st0) := by
  intro T hT X
  obtain ⟨v, st₀, t, T', L, h0, X', hL, e1, e2, ⟨⟨w, ty, hv, hp, hb, hk0, hd⟩, hz, hk⟩, st⟩ := hr T hT X
  cases hv
  rw [h0] at hz hk hd
  have hk' : ∀ q : Nat, q < H.size → ¬ va_A wc H.size q → T'.heap[q]? = H[q]? := fun q h1 h2 => by rw [e1]; exact hk q h1 h2
  obtain ⟨j1, j2⟩ := join_app hP hD hk' hF (by rw [e1]; exact hb) hd
  obtain ⟨t2, a1, b1⟩ := kk w ty T'.heap (locs ++ L) hp (va_K.moved (by rw [← e2]; exact X'.warmed.alike.symm) hk0) j1 j2
    ⟨Nat.le_trans hS.1 (by rw [e1]; exact hz), fun q h1 h2 => by rw [hk' q (Nat.lt_of_lt_of_le h1 hS.1) (fun z => h2 (hF q z))]; exact hS.2.1 q h1 h2, fun q hq => by
      rcases List.mem_append.mp hq with h | h
      · exact hS.2.2 q h
      · exact hF _ (hL q h)⟩ T' rfl X'
  exact ⟨t2, st t2 a1, b1⟩
theorem roomk_ {d d' nL' mc' ms' : Nat} (hd : d' + 1 ≤ d) (hn : nL' ≤ 45) : (rk_ d' mc' ms').frames + 1 ≤ (rk_ d mc ms).frames ∧ 8 + (nL' + 11) + (rk_ d' mc' ms').locals ≤ (rk_ d mc ms).locals := by
  simp only [rk_]; omega
theorem free_k {A : Nat → Prop} {s : State} {H : Heap} {locs : List Loc} {wp wc : va_W} (hD : va_D (va_A ws0 s.heap.size) (wp ++ wc)) (hS : va_S A s.heap H locs) : ∀ q, va_A wc H.size q → va_A ws0 s.heap.size q := by
  intro q h
  rcases h with ⟨k, e, h⟩ | h
  · exact hD.2 (wp.length + k) (q, e) (by rw [List.getElem?_append_right (Nat.le_add_right _ _)]; simpa using h)
  · exact Or.inr (Nat.le_trans hS.1 h)
theorem k_callI {d' idx nL' n mc' ms' b : Nat} {y' : MethodName} {cc' : ByteArray} {As : List Value} {wp wc : va_W} {post' : va_W → List (ClassId × FieldType) → Prop} (hw : ws = wp ++ wc) (hd : d' + 1 ≤ d) (hM : Mk_ l D d' mc' ms' y' cc' nL' (.ref b :: As) wc tys post') (hc : CB_ y' cc' nL' none n) (hin : y'.name = "<init>") (hl1 : Cond.methodLink y.cls idx y' ∈ TB_) (hl2 : Cond.instanceMethod y' ∈ TB_) (hn : As.length = n) (hst : st = As.reverse ++ .ref b :: rest) (hrs : (rest.map fun v => v.category).sum ≤ 8) (h1 : n1 + mc' ≤ mc) (h2 : n2 + ms' ≤ ms) (hdg : decode cc pc = .ok (.invokespecial idx, 3)) (kk : ∀ w ty, post' w ty → Rk l D d mc ms y cc nL ws0 post (pc + 3) lv rest (wp ++ w) ty (n1 + mc') (n2 + ms')) : Rk l D d mc ms y cc nL ws0 post pc lv st ws tys n1 n2 := by
  subst hw
  intro p e s m args below meth c H locs ls hy hK hP hD hS hl
  obtain ⟨hx, hb, hr, hml, hown, hts, hlk, hnm, hN⟩ := id hy
  refine W_callk (wp := wp) (wc := wc) (va_runI (As := As) (rest := rest) ⟨hx, hb, hml, hown, hts⟩ (hM H.size) ⟨callB_of n hts (TB_in hc.1) rfl rfl rfl (hts _ hc.2.1) (hts _ hl1) hc.2.2.2.2 (roomk_ hd hc.2.2.1), hin, hts _ hl2⟩ ⟨blind_k, fun U hU hW => ⟨rfl, by rw [hU], by rw [hU]; exact fun k q hq => hP (wp.length + k) q (by rw [List.getElem?_append_right (Nat.le_add_right _ _)]; simpa using hq), va_K.moved hW.alike hK, ?_, hN.warm hW⟩⟩ rfl hn hl.1 hst (lv_room hrs) hdg ⟨h1, h2⟩) hP hD hS (free_k hD hS) (fun w ty H1 locs1 hp hK1 hP1 hD1 hS1 => kk w ty hp p e s m args below meth c H1 locs1 ls hy hK1 hP1 hD1 hS1 hl)
  exact ⟨fun i j p q hp hq he => by have := hD.1 (wp.length + i) (wp.length + j) p q (by rw [List.getElem?_append_right (Nat.le_add_right _ _)]; simpa using hp) (by rw [List.getElem?_append_right (Nat.le_add_right _ _)]; simpa using hq) he; omega, fun _ _ _ => trivial⟩
theorem k_callIN {d' idx nL' n mc' ms' b : Nat} {y' : MethodName} {cc' : ByteArray} {As : List Value} {wp wc : va_W} {post' : va_W → List (ClassId × FieldType) → Prop} (hw : ws = wp ++ wc) (hd : d' + 1 ≤ d) (hM : Mk_ l D d' mc' ms' y' cc' nL' (.ref b :: As) wc tys post') (hc : CB_ y' cc' nL' none n) (hin : y'.name = "<init>") (hl1 : (y.cls, idx, y') ∈ nest_) (hl2 : Cond.instanceMethod y' ∈ TB_) (hn : As.length = n) (hst : st = As.reverse ++ .ref b :: rest) (hrs : (rest.map fun v => v.category).sum ≤ 8) (h1 : n1 + mc' ≤ mc) (h2 : n2 + ms' ≤ ms) (hdg : decode cc pc = .ok (.invokespecial idx, 3)) (kk : ∀ w ty, post' w ty → Rk l D d mc ms y cc nL ws0 post (pc + 3) lv rest (wp ++ w) ty (n1 + mc') (n2 + ms')) : Rk l D d mc ms y cc nL ws0 post pc lv st ws tys n1 n2 := by
  subst hw
  intro p e s m args below meth c H locs ls hy hK hP hD hS hl
  obtain ⟨hx, hb, hr, hml, hown, hts, hlk, hnm, hN⟩ := id hy
  refine W_callk (wp := wp) (wc := wc) (va_runIN (host := "BurlPipes") (As := As) (rest := rest) ⟨hx, hb, hml, hown, hts⟩ (hM H.size) ⟨va_cnB n hts (TB_in hc.1) rfl rfl rfl (hN.1 _ hl1) (hts _ hc.2.1) hc.2.2.2.2 (roomk_ hd hc.2.2.1), hin, hts _ hl2⟩ ⟨blind_k, fun U hU hW => ⟨rfl, by rw [hU], by rw [hU]; exact fun k q hq => hP (wp.length + k) q (by rw [List.getElem?_append_right (Nat.le_add_right _ _)]; simpa using hq), va_K.moved hW.alike hK, ?_, hN.warm hW⟩⟩ rfl hn hl.1 hst (lv_room hrs) hdg ⟨h1, h2⟩) hP hD hS (free_k hD hS) (fun w ty H1 locs1 hp hK1 hP1 hD1 hS1 => kk w ty hp p e s m args below meth c H1 locs1 ls hy hK1 hP1 hD1 hS1 hl)
  exact ⟨fun i j p q hp hq he => by have := hD.1 (wp.length + i) (wp.length + j) p q (by rw [List.getElem?_append_right (Nat.le_add_right _ _)]; simpa using hp) (by rw [List.getElem?_append_right (Nat.le_add_right _ _)]; simpa using hq) he; omega, fun _ _ _ => trivial⟩
theorem k_callV {d' idx nL' n b ci : Nat} {fs : List Value} {q : vw_C} {y' : MethodName} {cc' : ByteArray} {post' : va_W → List (ClassId × FieldType) → Prop} (hd : d' + 1 ≤ d) (hM : Mk_ l D d' 0 0 y' cc' nL' [.ref b] ws tys post') (he : ws[0]? = some (b, .inr (ci, fs))) (hq : vwCl[ci]? = some q) (hqc : q.1 = y'.cls) (hc : CB_ y' cc' nL' none n) (hn : n = 0) (hl1 : Cond.methodLink y.cls idx y' ∈ TB_) (hl2 : Cond.instanceMethod y' ∈ TB_) (hl3 : Cond.selects y'.cls y' y' ∈ TB_) (hst : st = .ref b :: rest) (hrs : (rest.map fun v => v.category).sum ≤ 8) (h1 : n1 ≤ mc) (h2 : n2 ≤ ms) (hdg : decode cc pc = .ok (.invokevirtual idx, 3)) (kk : ∀ w ty, post' w ty → Rk l D d mc ms y cc nL ws0 post (pc + 3) lv rest w ty n1 n2) : Rk l D d mc ms y cc nL ws0 post pc lv st ws tys n1 n2 := by
  subst hn
  intro p e s m args below meth c H locs ls hy hK hP hD hS hl
  obtain ⟨hx, hb, hr, hml, hown, hts, hlk, hnm, hN⟩ := id hy
  refine W_callk (wp := []) (wc := ws) (va_runV (C := y'.cls) (As := []) (rest := rest) ⟨hx, hb, hml, hown, hts⟩ (hM H.size) ⟨callB_of 0 hts (TB_in hc.1) rfl rfl rfl (hts _ hc.2.1) (hts _ hl1) hc.2.2.2.2 (roomk_ hd hc.2.2.1), hts _ hl2, hts _ hl3⟩ ⟨blind_k, hqc ▸ va_recv hK hP hq he, fun U hU hW => ⟨rfl, by rw [hU], by rw [hU]; exact hP, va_K.moved hW.alike hK, ?_, hN.warm hW⟩⟩ rfl rfl hl.1 hst (lv_room hrs) hdg ⟨h1, h2⟩) hP hD hS (free_k (wp := []) hD hS) (fun w ty H1 locs1 hp hK1 hP1 hD1 hS1 => kk w ty hp p e s m args below meth c H1 locs1 ls hy hK1 hP1 hD1 hS1 hl)
  exact ⟨hD.1, fun _ _ _ => trivial⟩
end RK
theorem vin_ {i : Int32} {n : Nat} (h : ¬ (i < 0 ∨ n ≤ i.toNatClampNeg)) : vp_in i n := h
theorem app_at {t u : List (ClassId × FieldType)} {i : Nat} {x : ClassId × FieldType} (h : t[i]? = some x) : (t ++ u)[i]? = some x := by
  rw [List.getElem?_append_left (List.getElem?_eq_some_iff.mp h).1]; exact h
theorem last_at {t : List (ClassId × FieldType)} {n : Nat} {x : ClassId × FieldType} (h : t.length = n) : (t ++ [x])[n]? = some x := by
  subst h; simp
