/-! CORE: a state of a fixed heap shape as functions; Rn: 'from this point of method y the machine comes to its return, post' ; one derived row an instruction -/
def fv_ (ad : Nat → Nat) (S : St) (k j : Nat) (x : Nat) : Value := match x with
  | 0 => .int (gI_ S k j)
  | 1 => .long (gL_ S k j)
  | 2 => .ref (ad (gR_ S k j))
  | r + 3 => .ref (ad r)
def cell_ (ad : Nat → Nat) (cy : Nat → ClassId) (S : St) (k : Nat) (e : ShE) : va_E := match e with
  | .inl (ci, ks) => .inr (ci, ks.mapIdx (fun j x => fv_ ad S k j x))
  | .inr (0, n, _) => .inl (cy 0, n, .inl (S.2.2.1 k))
  | .inr (1, n, _) => .inl (cy 1, n, .inl (S.2.2.1 k))
  | .inr (2, n, _) => .inl (cy 2, n, .inr (.inl (S.2.2.2.1 k)))
  | .inr (t + 3, n, g) => .inl (cy (t + 3), n, .inr (.inr (.inr (.inr (fun i => some (ad (g i)))))))
/-- launch, classes' numbers and slots, addresses of the places, row classes, addresses of the five texts and of their bytes -/
abbrev Gx : Type := Launch × va_G × (Nat → Nat) × (Nat → ClassId) × (Nat → Nat) × (Nat → Nat)
abbrev l_ (G : Gx) : Launch := G.1
abbrev D_ (G : Gx) : va_G := G.2.1
def ad_ (G : Gx) : Nat → Nat := G.2.2.1
def cy_ (G : Gx) : Nat → ClassId := G.2.2.2.1
def kS_ (G : Gx) : Nat → Nat := G.2.2.2.2.1
def kV_ (G : Gx) : Nat → Nat := G.2.2.2.2.2
def pic_ (G : Gx) (sh : List ShE) (S : St) : va_W := sh.mapIdx (fun k e => (ad_ G k, cell_ (ad_ G) (cy_ G) S k e))
def A_ (G : Gx) (sh : List ShE) : Nat → Prop := fun q => ∃ k, k < sh.length ∧ q = ad_ G k
def inj_ (G : Gx) (sh : List ShE) : Prop := ∀ i j, i < sh.length → j < sh.length → ad_ G i = ad_ G j → i = j
def tys_ (G : Gx) : List (ClassId × FieldType) := [(cy_ G 0, .int), (cy_ G 1, .boolean), (cy_ G 2, .long), (cy_ G 3, .object "BurlPipes$Board"), (cy_ G 4, .object "BurlPipes$Sheet")]
def nest_ : List (String × Nat × MethodName) := [("BurlPipes", 9, yX1_init), ("BurlPipes$Acts", 24, yX1_init), ("BurlPipes", 25, yX7_init), ("BurlPipes", 49, yX9_init), ("BurlPipes", 65, yX5_init), ("BurlPipes", 72, yX10_init), ("BurlPipes", 102, yX8_init), ("BurlPipes$Board", 32, yX11_within), ("BurlPipes$Shapes", 32, yX11_within), ("BurlPipes$Board", 36, yX11_bit), ("BurlPipes$Board", 40, yX11_squareAt), ("BurlPipes$Saw", 72, yX11_squareAt), ("BurlPipes$Saw", 87, yX11_bit), ("BurlPipes$Pipes", 43, yX11_within), ("BurlPipes$Tape", 46, yX11_within), ("BurlPipes$LawReader", 127, yX11_within), ("BurlPipes$Laws", 67, yX11_within), ("BurlPipes$Sheet", 22, yX11_within)]
def tx_ : List (Nat × String) := [(55, "stamp"), (61, "bar"), (63, "limit"), (65, "least"), (67, "second")]
/-- what lies outside: links of nest mates, the five texts, COMPACT_STRINGS -/
def Ex_ (G : Gx) (sh : List ShE) (s : State) (H : Heap) : Prop :=
  (∀ q ∈ nest_, va_Nw (.methodLinkNest q.1 q.2.1 q.2.2 "BurlPipes") s) ∧ (∀ i q, tx_[i]? = some q → vk_R "BurlPipes$Tape" q.1 q.2 (kS_ G i) s) ∧ vk_S 5 txL_ txB_ (kS_ G) (kV_ G) (A_ G sh) s H ∧ va_Z "java/lang/String" "COMPACT_STRINGS" "Z" (.int 1) (A_ G sh) s H ∧ va_Zq "jdk/internal/util/Preconditions" "SIOOBE_FORMATTER" "Ljava/util/function/BiFunction;" (A_ G sh) s H
theorem Ex_.warm {G : Gx} {sh : List ShE} {s U : State} {H : Heap} (hW : s.WarmedH U.vm) (h : Ex_ G sh s H) : Ex_ G sh U H :=
  ⟨fun q hq => va_Nw.warmM hW (h.1 q hq), fun i q hq => (h.2.1 i q hq).warm hW, h.2.2.1.moved hW.alike, h.2.2.2.1.moved hW.alike, h.2.2.2.2.moved hW.alike⟩
theorem Ex_.same {G : Gx} {sh : List ShE} {s U : State} {H : Heap} (hv : U.vm = s.vm) (h : Ex_ G sh s H) : Ex_ G sh U H :=
  ⟨fun q hq => va_Nw.same rfl hv.symm (h.1 q hq), fun i q hq => (h.2.1 i q hq).same hv, h.2.2.1.moved (by rw [hv]; exact Vm.Alike.refl _), h.2.2.2.1.moved (by rw [hv]; exact Vm.Alike.refl _), h.2.2.2.2.moved (by rw [hv]; exact Vm.Alike.refl _)⟩
theorem Ex_.kept {G : Gx} {sh : List ShE} {s : State} {H H1 : Heap} (hq : ∀ a : Nat, a < H.size → ¬ A_ G sh a → H1[a]? = H[a]?) (h : Ex_ G sh s H) : Ex_ G sh s H1 :=
  ⟨h.1, h.2.1, h.2.2.1.kept hq, h.2.2.2.1.kept hq, h.2.2.2.2.kept hq⟩
/-- places of the picture -/
theorem pic_get {G : Gx} {sh : List ShE} {S : St} {k : Nat} {e : ShE} (h : sh[k]? = some e) : (pic_ G sh S)[k]? = some (ad_ G k, cell_ (ad_ G) (cy_ G) S k e) := by
  simp [pic_, List.getElem?_mapIdx, h]
theorem pic_D {G : Gx} {sh : List ShE} (hI : inj_ G sh) (S : St) : va_D (A_ G sh) (pic_ G sh S) := by
  refine ⟨fun i j p q hp hq he => ?_, fun k q hq => ?_⟩
  · simp only [pic_, List.getElem?_mapIdx, Option.map_eq_some_iff] at hp hq
    obtain ⟨a, ha, rfl⟩ := hp
    obtain ⟨b, hb, rfl⟩ := hq
    exact hI i j (List.getElem?_eq_some_iff.mp ha).1 (List.getElem?_eq_some_iff.mp hb).1 he
  · simp only [pic_, List.getElem?_mapIdx, Option.map_eq_some_iff] at hq
    obtain ⟨a, ha, rfl⟩ := hq
    exact ⟨k, (List.getElem?_eq_some_iff.mp ha).1, rfl⟩
/-- a changed state whose other places are as they were -/
theorem pic_set {G : Gx} {sh : List ShE} {S S' : St} {k : Nat} {e : ShE} {x : va_E} (h : sh[k]? = some e) (hx : x = cell_ (ad_ G) (cy_ G) S' k e) (ho : ∀ k' e', k' ≠ k → sh[k']? = some e' → cell_ (ad_ G) (cy_ G) S' k' e' = cell_ (ad_ G) (cy_ G) S k' e') : (pic_ G sh S).set k (ad_ G k, x) = pic_ G sh S' := by
  subst hx
  apply List.ext_getElem?
  intro i
  rw [List.getElem?_set]
  by_cases hi : k = i
  · subst hi
    simp only [pic_, List.getElem?_mapIdx, h, List.length_mapIdx, Option.map_some, if_true]
    rw [if_pos (List.getElem?_eq_some_iff.mp h).1]
  · rw [if_neg hi]
    simp only [pic_, List.getElem?_mapIdx]
    cases he : sh[i]? with
    | none => rfl
    | some e' => simp only [Option.map_some]; rw [ho i e' (fun q => hi q.symm) he]
theorem fv_pI {ad : Nat → Nat} {S : St} {k j k' j' x : Nat} {v : Int32} (h : ¬ (k' = k ∧ j' = j)) : fv_ ad (pI_ S k j v) k' j' x = fv_ ad S k' j' x := by
  match x with
  | 0 => simp only [fv_, gI_, pI_, up2]; (by_cases a : k' = k <;> by_cases b : j' = j <;> simp_all)
  | 1 => rfl
  | 2 => rfl
  | _ + 3 => rfl
theorem fv_pL {ad : Nat → Nat} {S : St} {k j k' j' x : Nat} {v : Int64} (h : ¬ (k' = k ∧ j' = j)) : fv_ ad (pL_ S k j v) k' j' x = fv_ ad S k' j' x := by
  match x with
  | 0 => rfl
  | 1 => simp only [fv_, gL_, pL_, up2]; (by_cases a : k' = k <;> by_cases b : j' = j <;> simp_all)
  | 2 => rfl
  | _ + 3 => rfl
theorem fv_pR {ad : Nat → Nat} {S : St} {k j k' j' x : Nat} {v : Nat} (h : ¬ (k' = k ∧ j' = j)) : fv_ ad (pR_ S k j v) k' j' x = fv_ ad S k' j' x := by
  match x with
  | 0 => rfl
  | 1 => rfl
  | 2 => simp only [fv_, gR_, pR_, up2]; (by_cases a : k' = k <;> by_cases b : j' = j <;> simp_all)
  | _ + 3 => rfl
theorem cell_other {ad : Nat → Nat} {cy : Nat → ClassId} {S S' : St} {k : Nat} {e : ShE} (hf : ∀ j x, fv_ ad S' k j x = fv_ ad S k j x) (ha : S'.2.2.1 k = S.2.2.1 k) (hb : S'.2.2.2.1 k = S.2.2.2.1 k) : cell_ ad cy S' k e = cell_ ad cy S k e := by
  match e with
  | .inl (ci, ks) =>
    simp only [cell_]
    congr 2
    apply List.ext_getElem?
    intro i
    simp [List.getElem?_mapIdx, hf]
  | .inr (0, n, _) => simp [cell_, ha]
  | .inr (1, n, _) => simp [cell_, ha]
  | .inr (2, n, _) => simp [cell_, hb]
  | .inr (_ + 3, n, _) => rfl
theorem mapIdx_set {α β : Type} (l : List α) (f g : Nat → α → β) (j : Nat) (x : α) (v : β) (hj : l[j]? = some x) (hv : g j x = v) (ho : ∀ i y, i ≠ j → l[i]? = some y → g i y = f i y) : (l.mapIdx f).set j v = l.mapIdx g := by
  apply List.ext_getElem?
  intro i
  rw [List.getElem?_set]
  by_cases hi : j = i
  · subst hi
    obtain ⟨hlt, rfl⟩ := List.getElem?_eq_some_iff.mp hj
    subst hv
    simp [hlt]
  · rw [if_neg hi]
    simp only [List.getElem?_mapIdx]
    cases he : l[i]? with
    | none => rfl
    | some y => simp only [Option.map_some]; rw [ho i y (fun q => hi q.symm) he]
/-- the picture behind putfield of an int -/
theorem pic_pI {G : Gx} {sh : List ShE} {S : St} {k j ci : Nat} {ks : List Nat} {v : Int32} (h : sh[k]? = some (.inl (ci, ks))) (hj : ks[j]? = some 0) : (pic_ G sh S).set k (ad_ G k, .inr (ci, (ks.mapIdx (fun j x => fv_ (ad_ G) S k j x)).set j (.int v))) = pic_ G sh (pI_ S k j v) := by
  refine pic_set h ?_ (fun k' e' hk he => cell_other (fun j' x => fv_pI (fun q => hk q.1)) rfl rfl)
  simp only [cell_]
  congr 2
  exact mapIdx_set ks _ _ j 0 _ hj (by simp [fv_, gI_, pI_, up2]) (fun i y hi _ => fv_pI (fun q => hi q.2))
theorem pic_pL {G : Gx} {sh : List ShE} {S : St} {k j ci : Nat} {ks : List Nat} {v : Int64} (h : sh[k]? = some (.inl (ci, ks))) (hj : ks[j]? = some 1) : (pic_ G sh S).set k (ad_ G k, .inr (ci, (ks.mapIdx (fun j x => fv_ (ad_ G) S k j x)).set j (.long v))) = pic_ G sh (pL_ S k j v) := by
  refine pic_set h ?_ (fun k' e' hk he => cell_other (fun j' x => fv_pL (fun q => hk q.1)) rfl rfl)
  simp only [cell_]
  congr 2
  exact mapIdx_set ks _ _ j 1 _ hj (by simp [fv_, gL_, pL_, up2]) (fun i y hi _ => fv_pL (fun q => hi q.2))
theorem pic_pR {G : Gx} {sh : List ShE} {S : St} {k j ci : Nat} {ks : List Nat} {v : Nat} (h : sh[k]? = some (.inl (ci, ks))) (hj : ks[j]? = some 2) : (pic_ G sh S).set k (ad_ G k, .inr (ci, (ks.mapIdx (fun j x => fv_ (ad_ G) S k j x)).set j (.ref (ad_ G v)))) = pic_ G sh (pR_ S k j v) := by
  refine pic_set h ?_ (fun k' e' hk he => cell_other (fun j' x => fv_pR (fun q => hk q.1)) rfl rfl)
  simp only [cell_]
  congr 2
  exact mapIdx_set ks _ _ j 2 _ hj (by simp [fv_, gR_, pR_, up2]) (fun i y hi _ => fv_pR (fun q => hi q.2))
theorem up2_row {α : Type} (f : Nat → Nat → α) (k j : Nat) (v : α) : up2 f k j v k = fun i => if i = j then v else f k i := by
  funext i; simp [up2]
theorem up2_oth {α : Type} (f : Nat → Nat → α) (k j : Nat) (v : α) {k' : Nat} (h : k' ≠ k) : up2 f k j v k' = f k' := by
  funext i; simp [up2, h]
theorem pic_pA {G : Gx} {sh : List ShE} {S : St} {k j n t : Nat} {g : Nat → Nat} {v : Int32} (ht : t = 0 ∨ t = 1) (h : sh[k]? = some (.inr (t, n, g))) : (pic_ G sh S).set k (ad_ G k, .inl (cy_ G t, n, .inl (upd (S.2.2.1 k) j v))) = pic_ G sh (pA_ S k j v) := by
  refine pic_set h ?_ (fun k' e' hk he => cell_other (fun j' x => rfl) (up2_oth _ _ _ _ hk) rfl)
  rcases ht with rfl | rfl <;> (simp only [cell_, pA_, up2_row]; rfl)
theorem pic_pB {G : Gx} {sh : List ShE} {S : St} {k j n : Nat} {g : Nat → Nat} {v : Int64} (h : sh[k]? = some (.inr (2, n, g))) : (pic_ G sh S).set k (ad_ G k, .inl (cy_ G 2, n, .inr (.inl (vp_updL (S.2.2.2.1 k) j v)))) = pic_ G sh (pB_ S k j v) := by
  refine pic_set h ?_ (fun k' e' hk he => cell_other (fun j' x => rfl) rfl (up2_oth _ _ _ _ hk))
  simp only [cell_, pB_, up2_row]; rfl
theorem pic_pW {G : Gx} {sh : List ShE} {S : St} {k n : Nat} {g : Nat → Nat} {f : Nat → Int32} (h : sh[k]? = some (.inr (0, n, g))) : (pic_ G sh S).set k (ad_ G k, .inl (cy_ G 0, n, .inl f)) = pic_ G sh (pW_ S k f) := by
  refine pic_set h ?_ (fun k' e' hk he => cell_other (fun j' x => rfl) (by simp [pW_, hk]) rfl)
  simp [cell_, pW_]
