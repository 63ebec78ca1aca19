/-! THE CLAIM OUT OF ONE WALK OF THE LAW'S BODY. Your part is whole_start (and what it stands on); all else here is the same for every law, but numbers. -/
def R_law : String := "BurlPipesLaw"
def lw_P (b : Addr) (xs : List Int32) (args : Array Value) (s : State) : Prop := args = #[.ref b] ∧ s.IntsAt b xs ∧ xs.length ≤ 4096 ∧ (Jvm.Cond.and given_1 narrow_1).before args s = true
def lw_Q (_ : Array Value) (s : State) (o : Outcome) (t : State) : Prop := o = .returned (some (.int 1)) ∧ Framed s o t [] 600000 7302250
def lw_Z (below : List Frame) (a : Array Value) (s : State) : State → Prop := fun t => ∃ o, t.status = .running ∧ Ended t below o ∧ lw_Q a s o t
/-- the law's own end, with 1 on the stack, nothing written that was there before, its room as the claim has it -/
theorem lw_ret {p : Program} {l : Launch} {e : Env} {s : State} {m : MethodId} {below : List Frame} {meth : Method} {c : Code} {b : Nat} (hx : p.tables.exec = Jvm.exec) (hb : c.code = code) (hr : meth.sig.returnType = ret) (hlocks : meth.locks = false) {pc : Nat} {H : Heap} {ls : Array Slot} (hdg : decode code pc = .ok (.ireturn, 1)) : W p l e room_1 s m #[Value.ref b] below meth c H [] 600000 7302250 (lw_Z below #[Value.ref b] s) (F0 m pc ls [.int 1]) := by
  intro T hT X
  obtain ⟨fs, hret, hrun, hended, hW, hframe⟩ := X.leave (v := some (.int 1)) (hlocks := hlocks) (fun h => by rw [hr] at h; cases h)
  have hmeth' : T.vm.method? m = some meth := X.method'
  refine ⟨T.setFrames fs, ?_, .returned (some (.int 1)), hrun, hended, rfl, ⟨_, rfl⟩, hW, hframe⟩
  jvm_step X.here [X.here.top, hx, hb, hdg, hmeth', hr, ret, narrow_b1]
  (try refine ⟨rfl, ?_⟩); (try refine ⟨rfl, ?_⟩)
  first | (intro acts; rw [hret _ acts rfl rfl rfl]) | rw [hret _ _ rfl rfl rfl]
  exact Steps.refl _
/-- what holds at the law's entry: the machine, the code, the tables' words (any of lw_tbl by 'hts w (by decide +kernel)'), the script of L ints xs at the cell b, what the Statement gives of the start (any of its parts by flat_of_before) -/
def lw_At (p : Program) (s : State) (m : MethodId) (meth : Method) (c : Code) (b L : Nat) (xs : Nat → Int32) : Prop :=
  p.tables.exec = Jvm.exec ∧ c.code = code ∧ meth.sig.returnType = ret ∧ c.maxLocals = 4 ∧ s.vm.findClass R_law = some m.cls ∧ (∀ w ∈ lw_tbl, w.before #[Value.ref b] s = true) ∧ va_X b L xs s s.heap ∧ b < s.heap.size ∧ meth.locks = false ∧ (Jvm.Cond.and given_1 narrow_1).before #[Value.ref b] s = true
def RLw (e : Env) (p : Program) (s : State) (m : MethodId) (below : List Frame) (meth : Method) (c : Code) (b : Nat) (G1 G2 : Gx) (pc : Nat) (lv : List (Nat × Value)) (st : List Value) (SX SM : St) : Prop :=
  ∀ (H : Heap) (locs : List Loc) (ls : Array Slot), va_P (D_ G1) vwCl (pic_ G1 shX SX) H → va_P (D_ G2) vwCl (pic_ G2 shM SM) H → va_S (fun q => s.heap.size ≤ q) s.heap H locs → lv_has ls 4 lv →
    W p (l_ G1) e room_1 s m #[Value.ref b] below meth c H locs 600000 7302250 (lw_Z below #[Value.ref b] s) (F0 m pc ls st)
def Lx_ (p : Program) (s : State) (m : MethodId) (meth : Method) (c : Code) (b L : Nat) (xs : Nat → Int32) (G1 G2 : Gx) : Prop :=
  lw_At p s m meth c b L xs ∧ l_ G2 = l_ G1 ∧ inj_ G1 shX ∧ inj_ G2 shM ∧ (∀ q, A_ G1 shX q → s.heap.size ≤ q) ∧ (∀ q, A_ G2 shM q → s.heap.size ≤ q) ∧ (∀ q, A_ G1 shX q → ¬ A_ G2 shM q) ∧ va_K (D_ G1) vwCl (tys_ G1) s ∧ va_K (D_ G2) vwCl (tys_ G2) s ∧ Ex_ G1 shX s s.heap ∧ Ex_ G2 shM s s.heap
section LW
variable {e : Env} {p : Program} {s : State} {m : MethodId} {below : List Frame} {meth : Method} {c : Code} {b L : Nat} {xs : Nat → Int32} {G1 G2 : Gx} {pc : Nat} {lv : List (Nat × Value)} {st rest : List Value} {SX SM : St}
theorem W_callL {l : Launch} {R : Room} {args : Array Value} {cells slots : Nat} {Q : State → Prop} {ls : Array Slot} {H : Heap} {locs : List Loc} {G : Gx} {sh : List ShE} {A0 : Nat → Prop} {post' : Option Value → St → Prop} {st0 : List Value} {a : Array Value} (hr : va_Run p l e R s m args below meth c H locs cells slots 0 0 (F0 m pc ls st0) rest (Qc_ G sh post' a) (A_ G sh)) (hS : va_S A0 s.heap H locs) (hA : ∀ q, A_ G sh q → A0 q)
    (kk : ∀ (r : Option Value) (S' : St) (H1 : Heap) (locs1 : List Loc), post' r S' → va_P (D_ G) vwCl (pic_ G sh S') H1 → va_S A0 s.heap H1 locs1 → (∀ q : Nat, q < H.size → ¬ A_ G sh q → H1[q]? = H[q]?) → W p l e R s m args below meth c H1 locs1 cells slots Q (F0 m (pc + 3) ls (r.toList ++ rest))) : W p l e R s m args below meth c H locs cells slots Q (F0 m pc ls st0) := by
  intro T hT X
  obtain ⟨v, st₀, t, T', L, h0, X', hL, e1, e2, ⟨⟨r, u, hv, hp, hb⟩, hz, hk⟩, st⟩ := hr T hT X
  cases hv
  rw [h0] at hz hk
  have hk' : ∀ q : Nat, q < H.size → ¬ A_ G sh q → T'.heap[q]? = H[q]? := fun q h1 h2 => by rw [e1]; exact hk q h1 h2
  obtain ⟨t2, a1, b1⟩ := kk v u T'.heap (locs ++ L) hp (by rw [e1]; exact hb)
    ⟨Nat.le_trans hS.1 (by rw [e1]; exact hz), fun q h1 h2 => by rw [hk' q (Nat.lt_of_lt_of_le h1 hS.1) (fun z => h2 (hA q z))]; exact hS.2.1 q h1 h2, fun q hq => by
      rcases List.mem_append.mp hq with h | h
      · exact hS.2.2 q h
      · exact hA _ (hL q h)⟩ hk' T' rfl X'
  exact ⟨t2, st t2 a1, b1⟩
theorem pic_other {G G' : Gx} {sh sh' : List ShE} {S : St} {H H1 : Heap} (hP : va_P (D_ G) vwCl (pic_ G sh S) H) (hd : ∀ q, A_ G sh q → ¬ A_ G' sh' q) (hk : ∀ q : Nat, q < H.size → ¬ A_ G' sh' q → H1[q]? = H[q]?) : va_P (D_ G) vwCl (pic_ G sh S) H1 := by
  refine hP.kept (fun k q hq => hk q.1 ((hP k q hq).lt) (hd q.1 ?_))
  simp only [pic_, List.getElem?_mapIdx, Option.map_eq_some_iff] at hq
  obtain ⟨a, ha, rfl⟩ := hq
  exact ⟨k, (List.getElem?_eq_some_iff.mp ha).1, rfl⟩
theorem roomL_ {d' nL' : Nat} (hd : d' ≤ 30) (hn : nL' ≤ 45) : (rm_ d').frames + 1 ≤ room_1.frames ∧ 8 + (nL' + 11) + (rm_ d').locals ≤ room_1.locals := by
  simp only [rm_, room_1]; omega
theorem q_iconst {n : Int} {v : Int32} (C : Lx_ p s m meth c b L xs G1 G2) (hdg : decode code pc = .ok (.iconst n, 1)) (hv : Int32.ofInt n = v) (k : RLw e p s m below meth c b G1 G2 (pc + 1) lv (.int v :: rest) SX SM) : RLw e p s m below meth c b G1 G2 pc lv rest SX SM := by
  intro H locs ls h1 h2 hS hl
  exact lv_iconst C.1.1 C.1.2.1 hdg hv (k H locs ls h1 h2 hS hl)
theorem q_bipush {n : Int} {v : Int32} (C : Lx_ p s m meth c b L xs G1 G2) (hdg : decode code pc = .ok (.bipush n, 2)) (hv : (Int8.ofInt n).toInt32 = v) (k : RLw e p s m below meth c b G1 G2 (pc + 2) lv (.int v :: rest) SX SM) : RLw e p s m below meth c b G1 G2 pc lv rest SX SM := by
  intro H locs ls h1 h2 hS hl
  exact lv_bipush C.1.1 C.1.2.1 hdg hv (k H locs ls h1 h2 hS hl)
theorem q_iadd {x y : Int32} (C : Lx_ p s m meth c b L xs G1 G2) (hdg : decode code pc = .ok (.iadd, 1))  (k : RLw e p s m below meth c b G1 G2 (pc + 1) lv (.int (x + y) :: rest) SX SM) : RLw e p s m below meth c b G1 G2 pc lv (.int y :: .int x :: rest) SX SM := by
  intro H locs ls h1 h2 hS hl
  exact lv_iadd C.1.1 C.1.2.1 hdg  (k H locs ls h1 h2 hS hl)
theorem q_isub {x y : Int32} (C : Lx_ p s m meth c b L xs G1 G2) (hdg : decode code pc = .ok (.isub, 1))  (k : RLw e p s m below meth c b G1 G2 (pc + 1) lv (.int (x - y) :: rest) SX SM) : RLw e p s m below meth c b G1 G2 pc lv (.int y :: .int x :: rest) SX SM := by
  intro H locs ls h1 h2 hS hl
  exact lv_isub C.1.1 C.1.2.1 hdg  (k H locs ls h1 h2 hS hl)
theorem q_iand {x y : Int32} (C : Lx_ p s m meth c b L xs G1 G2) (hdg : decode code pc = .ok (.iand, 1))  (k : RLw e p s m below meth c b G1 G2 (pc + 1) lv (.int (x &&& y) :: rest) SX SM) : RLw e p s m below meth c b G1 G2 pc lv (.int y :: .int x :: rest) SX SM := by
  intro H locs ls h1 h2 hS hl
  exact lv_iand C.1.1 C.1.2.1 hdg  (k H locs ls h1 h2 hS hl)
theorem q_land {x y : Int64} (C : Lx_ p s m meth c b L xs G1 G2) (hdg : decode code pc = .ok (.land, 1))  (k : RLw e p s m below meth c b G1 G2 (pc + 1) lv (.long (x &&& y) :: rest) SX SM) : RLw e p s m below meth c b G1 G2 pc lv (.long y :: .long x :: rest) SX SM := by
  intro H locs ls h1 h2 hS hl
  exact lv_land C.1.1 C.1.2.1 hdg  (k H locs ls h1 h2 hS hl)
theorem q_lor {x y : Int64} (C : Lx_ p s m meth c b L xs G1 G2) (hdg : decode code pc = .ok (.lor, 1))  (k : RLw e p s m below meth c b G1 G2 (pc + 1) lv (.long (x ||| y) :: rest) SX SM) : RLw e p s m below meth c b G1 G2 pc lv (.long y :: .long x :: rest) SX SM := by
  intro H locs ls h1 h2 hS hl
  exact lv_lor C.1.1 C.1.2.1 hdg  (k H locs ls h1 h2 hS hl)
theorem q_lshl {x : Int64} {y : Int32} (C : Lx_ p s m meth c b L xs G1 G2) (hdg : decode code pc = .ok (.lshl, 1))  (k : RLw e p s m below meth c b G1 G2 (pc + 1) lv (.long (x <<< (y.toInt64 &&& 63)) :: rest) SX SM) : RLw e p s m below meth c b G1 G2 pc lv (.int y :: .long x :: rest) SX SM := by
  intro H locs ls h1 h2 hS hl
  exact lv_lshl C.1.1 C.1.2.1 hdg rfl (k H locs ls h1 h2 hS hl)
theorem q_i2l {x : Int32} (C : Lx_ p s m meth c b L xs G1 G2) (hdg : decode code pc = .ok (.i2l, 1))  (k : RLw e p s m below meth c b G1 G2 (pc + 1) lv (.long x.toInt64 :: rest) SX SM) : RLw e p s m below meth c b G1 G2 pc lv (.int x :: rest) SX SM := by
  intro H locs ls h1 h2 hS hl
  exact lv_i2l C.1.1 C.1.2.1 hdg rfl (k H locs ls h1 h2 hS hl)
theorem q_ldc2 {idx : Nat} {v : Int64} (C : Lx_ p s m meth c b L xs G1 G2) (hc : Cond.constantLong R_law idx v ∈ lw_tbl) (hdg : decode code pc = .ok (.ldc2_w idx, 3)) (k : RLw e p s m below meth c b G1 G2 (pc + 3) lv (.long v :: rest) SX SM) : RLw e p s m below meth c b G1 G2 pc lv rest SX SM := by
  intro H locs ls h1 h2 hS hl
  exact lv_ldc2 C.1.1 C.1.2.1 C.1.2.2.2.2.1 (C.1.2.2.2.2.2.1 _ hc) hdg (k H locs ls h1 h2 hS hl)
theorem q_iload_n {k0 : Fin 4} {i : Nat} {x : Int32} (C : Lx_ p s m meth c b L xs G1 G2) (q : Nat) (hdg : decode code pc = .ok (.iload_n k0, 1)) (hi : (k0 : Nat) = i) (hq : lv[q]? = some (i, .int x)) (k : RLw e p s m below meth c b G1 G2 (pc + 1) lv (.int x :: rest) SX SM) : RLw e p s m below meth c b G1 G2 pc lv rest SX SM := by
  intro H locs ls h1 h2 hS hl
  exact lv_iload_n C.1.1 C.1.2.1 hdg hi (lv_at hl q hq) (k H locs ls h1 h2 hS hl)
theorem q_aload_n {k0 : Fin 4} {i : Nat} {x : Nat} (C : Lx_ p s m meth c b L xs G1 G2) (q : Nat) (hdg : decode code pc = .ok (.aload_n k0, 1)) (hi : (k0 : Nat) = i) (hq : lv[q]? = some (i, .ref x)) (k : RLw e p s m below meth c b G1 G2 (pc + 1) lv (.ref x :: rest) SX SM) : RLw e p s m below meth c b G1 G2 pc lv rest SX SM := by
  intro H locs ls h1 h2 hS hl
  exact lv_aload_n C.1.1 C.1.2.1 hdg hi (lv_at hl q hq) (k H locs ls h1 h2 hS hl)
theorem q_iinc {i : Nat} {n : Int} {x v : Int32} (C : Lx_ p s m meth c b L xs G1 G2) (lv2 : List (Nat × Value)) (q : Nat) (ks : List Nat) (hdg : decode code pc = .ok (.iinc i n, 3)) (hq : lv[q]? = some (i, .int x)) (hv : x + Int32.ofInt n = v) (hn : i < 4) (hp : lv_pick ((i, .int v) :: lv.filter (fun q => !(q.1 == i) && !(q.1 + 1 == i && q.2.category == 2))) ks = lv2) (k : RLw e p s m below meth c b G1 G2 (pc + 3) lv2 st SX SM) : RLw e p s m below meth c b G1 G2 pc lv st SX SM := by
  intro H locs ls h1 h2 hS hl
  exact lv_iinc C.1.1 C.1.2.1 hdg hl hq hv hn rfl (fun ls2 hl2 => k H locs ls2 h1 h2 hS (lv_sub hl2 ks hp))
theorem q_goto {off : Int} (C : Lx_ p s m meth c b L xs G1 G2) (tgt : Nat) (hdg : decode code pc = .ok (.goto off, 3)) (ht : (pc : Int) + off = (tgt : Int)) (k : RLw e p s m below meth c b G1 G2 tgt lv st SX SM) : RLw e p s m below meth c b G1 G2 pc lv st SX SM := by
  intro H locs ls h1 h2 hS hl
  exact lv_goto C.1.1 C.1.2.1 hdg ht (k H locs ls h1 h2 hS hl)
theorem q_if_eq {x : Int32} {off : Int} (C : Lx_ p s m meth c b L xs G1 G2) (tgt : Nat) (hdg : decode code pc = .ok (.ifCond .eq off, 3)) (ht : (pc : Int) + off = (tgt : Int)) (kt : x = 0 → RLw e p s m below meth c b G1 G2 tgt lv rest SX SM) (kf : ¬ x = 0 → RLw e p s m below meth c b G1 G2 (pc + 3) lv rest SX SM) : RLw e p s m below meth c b G1 G2 pc lv (.int x :: rest) SX SM := by
  intro H locs ls h1 h2 hS hl
  exact lv_if_eq C.1.1 C.1.2.1 hdg ht (fun q => kt q H locs ls h1 h2 hS hl) (fun q => kf q H locs ls h1 h2 hS hl)
theorem q_icmp_eq {x : Int32} {off : Int} (C : Lx_ p s m meth c b L xs G1 G2) (tgt : Nat) (hdg : decode code pc = .ok (.if_icmp .eq off, 3)) (ht : (pc : Int) + off = (tgt : Int)) (kt : RLw e p s m below meth c b G1 G2 tgt lv rest SX SM) : RLw e p s m below meth c b G1 G2 pc lv (.int x :: .int x :: rest) SX SM := by
  intro H locs ls h1 h2 hS hl
  exact lv_icmp_eq C.1.1 C.1.2.1 hdg ht (fun _ => kt H locs ls h1 h2 hS hl) (fun q => absurd rfl q)
theorem q_icmp_gt {x y : Int32} {off : Int} (C : Lx_ p s m meth c b L xs G1 G2) (tgt : Nat) (hdg : decode code pc = .ok (.if_icmp .gt off, 3)) (ht : (pc : Int) + off = (tgt : Int)) (kt : y < x → RLw e p s m below meth c b G1 G2 tgt lv rest SX SM) (kf : ¬ y < x → RLw e p s m below meth c b G1 G2 (pc + 3) lv rest SX SM) : RLw e p s m below meth c b G1 G2 pc lv (.int y :: .int x :: rest) SX SM := by
  intro H locs ls h1 h2 hS hl
  exact lv_icmp_gt C.1.1 C.1.2.1 hdg ht (fun q => kt q H locs ls h1 h2 hS hl) (fun q => kf q H locs ls h1 h2 hS hl)
theorem q_sld {i v : Int32} (C : Lx_ p s m meth c b L xs G1 G2) (hin : vp_in i L) (hv : xs i.toNatClampNeg = v) (hdg : decode code pc = .ok (.iaload, 1)) (k : RLw e p s m below meth c b G1 G2 (pc + 1) lv (.int v :: rest) SX SM) : RLw e p s m below meth c b G1 G2 pc lv (.int i :: .ref b :: rest) SX SM := by
  subst hv
  intro H locs ls h1 h2 hS hl
  exact va_sld C.1.1 C.1.2.1 C.1.2.2.2.2.2.2.1 C.1.2.2.2.2.2.2.2.1 (Nat.not_le.mpr C.1.2.2.2.2.2.2.2.1) hS hin hdg (k H locs ls h1 h2 hS hl)
theorem q_slen (C : Lx_ p s m meth c b L xs G1 G2) (hdg : decode code pc = .ok (.arraylength, 1)) (k : RLw e p s m below meth c b G1 G2 (pc + 1) lv (.int (nI L) :: rest) SX SM) : RLw e p s m below meth c b G1 G2 pc lv (.ref b :: rest) SX SM := by
  intro H locs ls h1 h2 hS hl
  exact va_slen C.1.1 C.1.2.1 C.1.2.2.2.2.2.2.1 C.1.2.2.2.2.2.2.2.1 (Nat.not_le.mpr C.1.2.2.2.2.2.2.2.1) hS hdg (k H locs ls h1 h2 hS hl)
theorem q_tableIn {dflt lo hi : Int} {offs : Array Int} {len : Nat} {x c0 : Int32} {off : Int} (C : Lx_ p s m meth c b L xs G1 G2) (tgt : Nat) (hdg : decode code pc = .ok (.tableswitch dflt lo hi offs, len)) (hx : x = c0) (h1 : ¬ c0.toInt < lo) (h2 : ¬ hi < c0.toInt) (ho : offs[(c0.toInt - lo).toNat]? = some off) (ht : (pc : Int) + off = (tgt : Int)) (k : RLw e p s m below meth c b G1 G2 tgt lv rest SX SM) : RLw e p s m below meth c b G1 G2 pc lv (.int x :: rest) SX SM := by
  subst hx
  intro H locs ls g1 g2 hS hl
  exact lv_tableIn C.1.1 C.1.2.1 hdg h1 h2 ho ht (k H locs ls g1 g2 hS hl)
theorem q_tableOut {dflt lo hi : Int} {offs : Array Int} {len : Nat} {x : Int32} (C : Lx_ p s m meth c b L xs G1 G2) (tgt : Nat) (hdg : decode code pc = .ok (.tableswitch dflt lo hi offs, len)) (h : x.toInt < lo ∨ hi < x.toInt) (ht : (pc : Int) + dflt = (tgt : Int)) (k : RLw e p s m below meth c b G1 G2 tgt lv rest SX SM) : RLw e p s m below meth c b G1 G2 pc lv (.int x :: rest) SX SM := by
  intro H locs ls h1 h2 hS hl
  exact lv_tableOut C.1.1 C.1.2.1 hdg h ht (k H locs ls h1 h2 hS hl)
theorem q_end (C : Lx_ p s m meth c b L xs G1 G2) (hdg : decode code pc = .ok (.ireturn, 1)) : RLw e p s m below meth c b G1 G2 pc lv [.int 1] SX SM := by
  intro H locs ls h1 h2 hS hl
  obtain ⟨hx, hb, hr, hml, hown, hts, hX, hbl, hlocks, hgv⟩ := C.1
  exact va_forget (fun q hq => hS.2.2 q hq) (lw_ret hx hb hr hlocks hdg)
theorem q_callX {d' idx nL' n : Nat} {y' : MethodName} {cc' : ByteArray} {ret' : Option FieldType} {As : List Value} {v : Int32} {S1 : St} (C : Lx_ p s m meth c b L xs G1 G2) (hd : d' ≤ 30) (hM : MR_ G1 shX d' y' cc' nL' ret' (.ref (ad_ G1 0) :: As) SX (PI_ v S1)) (hqc : y'.cls = RX11) (hc : CB_ y' cc' nL' ret' n) (hl1 : Cond.methodLink R_law idx y' ∈ TB_) (hl2 : Cond.instanceMethod y' ∈ TB_) (hl3 : Cond.selects y'.cls y' y' ∈ TB_) (hn : As.length = n) (hst : st = As.reverse ++ .ref (ad_ G1 0) :: rest) (hrs : (rest.map fun v => v.category).sum ≤ 8) (hdg : decode code pc = .ok (.invokevirtual idx, 3)) (kk : RLw e p s m below meth c b G1 G2 (pc + 3) lv (.int v :: rest) S1 SM) : RLw e p s m below meth c b G1 G2 pc lv st SX SM := by
  intro H locs ls h1 h2 hS hl
  obtain ⟨hx, hb, hr, hml, hown, hts0, hX, hbl, hlocks, hgv⟩ := C.1
  have hts : ∀ w ∈ TB_, w.before #[Value.ref b] s = true := fun w hw => hts0 w (List.mem_filter.mp hw).1
  have hM1 : Met (l_ G1) y' (.code y' cc' nL' ret' :: TB_) (rm_ d') (va_Pc (.ref (ad_ G1 0) :: As) (fun U => va_P (D_ G1) vwCl (pic_ G1 shX SX) U.heap ∧ va_K (D_ G1) vwCl (tys_ G1) U ∧ Ex_ G1 shX U U.heap)) (Qc_ G1 shX (PI_ v S1)) 0 0 (A_ G1 shX) := hM C.2.2.1
  have hke : ∀ a : Nat, a < s.heap.size → ¬ A_ G1 shX a → H[a]? = s.heap[a]? := fun a ha _ => hS.2.1 a ha (Nat.not_le.mpr ha)
  refine W_callL (va_runV (C := y'.cls) (As := As) (rest := rest) ⟨hx, hb, hml, hown, hts⟩ hM1 ⟨callB_of n hts (TB_in hc.1) rfl rfl rfl (hts _ hc.2.1) (hts _ hl1) hc.2.2.2.2 (roomL_ hd hc.2.2.1), hts _ hl2, hts _ hl3⟩ ⟨blind_, ?_, fun U hU hW => ⟨rfl, by rw [hU]; exact h1, va_K.moved hW.alike C.2.2.2.2.2.2.2.1, by rw [hU]; exact (C.2.2.2.2.2.2.2.2.2.1.kept hke).warm hW⟩⟩ rfl hn hl.1 hst (lv_room hrs) hdg ⟨Nat.le_refl _, Nat.le_refl _⟩) hS C.2.2.2.2.1 (fun r S' H1 locs1 hp hP1 hS1 hk => ?_)
  · rw [hqc]
    exact va_recv (q := (RX11, TX11, 14)) C.2.2.2.2.2.2.2.1 h1 rfl (pic_get sX_0)
  · obtain ⟨rfl, rfl⟩ := hp
    exact kk H1 locs1 ls hP1 (pic_other h2 (fun q hq2 hq1 => C.2.2.2.2.2.2.1 q hq1 hq2) hk) hS1 hl
theorem q_callM {d' idx nL' n : Nat} {y' : MethodName} {cc' : ByteArray} {ret' : Option FieldType} {As : List Value} {v : Int32} {S1 : St} (C : Lx_ p s m meth c b L xs G1 G2) (hd : d' ≤ 30) (hM : MR_ G2 shM d' y' cc' nL' ret' (.ref (ad_ G2 0) :: As) SM (PI_ v S1)) (hqc : y'.cls = RX12) (hc : CB_ y' cc' nL' ret' n) (hl1 : Cond.methodLink R_law idx y' ∈ TB_) (hl2 : Cond.instanceMethod y' ∈ TB_) (hl3 : Cond.selects y'.cls y' y' ∈ TB_) (hn : As.length = n) (hst : st = As.reverse ++ .ref (ad_ G2 0) :: rest) (hrs : (rest.map fun v => v.category).sum ≤ 8) (hdg : decode code pc = .ok (.invokevirtual idx, 3)) (kk : RLw e p s m below meth c b G1 G2 (pc + 3) lv (.int v :: rest) SX S1) : RLw e p s m below meth c b G1 G2 pc lv st SX SM := by
  intro H locs ls h1 h2 hS hl
  obtain ⟨hx, hb, hr, hml, hown, hts0, hX, hbl, hlocks, hgv⟩ := C.1
  have hts : ∀ w ∈ TB_, w.before #[Value.ref b] s = true := fun w hw => hts0 w (List.mem_filter.mp hw).1
  have hM1 : Met (l_ G1) y' (.code y' cc' nL' ret' :: TB_) (rm_ d') (va_Pc (.ref (ad_ G2 0) :: As) (fun U => va_P (D_ G2) vwCl (pic_ G2 shM SM) U.heap ∧ va_K (D_ G2) vwCl (tys_ G2) U ∧ Ex_ G2 shM U U.heap)) (Qc_ G2 shM (PI_ v S1)) 0 0 (A_ G2 shM) := by have := hM C.2.2.2.1; rw [C.2.1] at this; exact this
  have hke : ∀ a : Nat, a < s.heap.size → ¬ A_ G2 shM a → H[a]? = s.heap[a]? := fun a ha _ => hS.2.1 a ha (Nat.not_le.mpr ha)
  refine W_callL (va_runV (C := y'.cls) (As := As) (rest := rest) ⟨hx, hb, hml, hown, hts⟩ hM1 ⟨callB_of n hts (TB_in hc.1) rfl rfl rfl (hts _ hc.2.1) (hts _ hl1) hc.2.2.2.2 (roomL_ hd hc.2.2.1), hts _ hl2, hts _ hl3⟩ ⟨blind_, ?_, fun U hU hW => ⟨rfl, by rw [hU]; exact h2, va_K.moved hW.alike C.2.2.2.2.2.2.2.2.1, by rw [hU]; exact (C.2.2.2.2.2.2.2.2.2.2.kept hke).warm hW⟩⟩ rfl hn hl.1 hst (lv_room hrs) hdg ⟨Nat.le_refl _, Nat.le_refl _⟩) hS C.2.2.2.2.2.1 (fun r S' H1 locs1 hp hP1 hS1 hk => ?_)
  · rw [hqc]
    exact va_recv (q := (RX12, TX12, 67)) C.2.2.2.2.2.2.2.2.1 h2 rfl (pic_get sM_0)
  · obtain ⟨rfl, rfl⟩ := hp
    exact kk H1 locs1 ls (pic_other h1 C.2.2.2.2.2.2.1 hk) hP1 hS1 hl
end LW
