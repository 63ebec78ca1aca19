/-! what ties the class's state to the reference's -/
def BX (S : St) (k w h : Nat) (cr : Nat → Bool) (gr : Nat → Nat) : Prop :=
  gI_ S k 0 = nI w ∧ gI_ S k 1 = nI h ∧ (∀ q, q < 64 → lt_ (gL_ S k 2) q = cr q) ∧ (∀ q, q < 64 → aI_ S (k + 1) q = nI (gr q))
def BM (S : St) (a b i : Nat) (cr : Nat → Bool) (gr : Nat → Nat) : Prop := ∀ q, q < 64 → aI_ S a (i + q) = zb (cr q) ∧ aI_ S b (i + q) = nI (gr q)
def GrB (gr : Nat → Nat) : Prop := ∀ q, q < 64 → gr q ≤ 9
def Brd (SX SM : St) (w h : Nat) (cr : Nat → Bool) (gr : Nat → Nat) : Prop :=
  (1 ≤ w ∧ w ≤ 8 ∧ 1 ≤ h ∧ h ≤ 8) ∧ GrB gr ∧ BX SX 1 w h cr gr ∧ gI_ SM 0 0 = nI w ∧ gI_ SM 0 1 = nI h ∧ BM SM 1 2 0 cr gr
def Act (SX SM : St) (w h n nx : Nat) (ac : Nat → Nat → Bool) (ag : Nat → Nat → Nat) : Prop :=
  (n ≤ 8 ∧ nx < 8) ∧ gI_ SX 3 1 = nI nx ∧ gI_ SX 3 2 = nI n ∧ gI_ SM 0 6 = nI n ∧ ∀ j, j < n → BX SX (5 + 2 * ((nx + 8 - n + j) % 8)) w h (ac j) (ag j) ∧ BM SM 4 5 (64 * j) (ac j) (ag j) ∧ GrB (ag j)
def Wrl (SX SM : St) (n : Nat) (dc : Nat → Nat → Bool) : Prop :=
  n ≤ 4 ∧ gI_ SX 0 5 = nI n ∧ gI_ SM 0 4 = nI n ∧ ∀ i q, i < n → q < 64 → lt_ (aL_ SX 36 i) q = dc i q ∧ aI_ SM 3 (64 * i + q) = zb (dc i q)
def RB (SX SM : St) : Prop := ∃ (w h : Nat) (cr : Nat → Bool) (gr : Nat → Nat), Brd SX SM w h cr gr ∧ (∃ n nx ac ag, Act SX SM w h n nx ac ag) ∧ (∃ n dc, Wrl SX SM n dc)
/-- shapes: how many (field a b), rows from r on -/
def Shp (S : St) (a b r n : Nat) (sw sh pr ls : Nat → Nat) (tn : Nat → Bool) : Prop :=
  gI_ S a b = nI n ∧ ∀ s, s < n → aI_ S r s = nI (sw s) ∧ aI_ S (r + 1) s = nI (sh s) ∧ aI_ S (r + 2) s = nI (pr s) ∧ aI_ S (r + 3) s = nI (ls s) ∧ aI_ S (r + 4) s = zb (tn s)
def ShB (n : Nat) (sw sh pr ls : Nat → Nat) : Prop := n ≤ 8 ∧ ∀ s, s < n → (1 ≤ sw s ∧ sw s ≤ 8) ∧ (1 ≤ sh s ∧ sh s ≤ 8) ∧ (1 ≤ pr s ∧ pr s ≤ 500) ∧ ls s ≤ 9
def Stk (S : St) (a b r n : Nat) (kw kh kg ka : Nat → Nat) : Prop :=
  gI_ S a b = nI n ∧ ∀ s, s < n → aI_ S r s = nI (kw s) ∧ aI_ S (r + 1) s = nI (kh s) ∧ aI_ S (r + 2) s = nI (kg s) ∧ aI_ S (r + 3) s = nI (ka s)
def StB (n : Nat) (kw kh kg ka : Nat → Nat) : Prop := n ≤ 12 ∧ ∀ s, s < n → (1 ≤ kw s ∧ kw s ≤ 8) ∧ (1 ≤ kh s ∧ kh s ≤ 8) ∧ kg s ≤ 9 ∧ ka s ≤ 99
def Odr (S : St) (a b r n : Nat) (os oa op : Nat → Nat) : Prop :=
  gI_ S a b = nI n ∧ ∀ s, s < n → aI_ S r s = nI (os s) ∧ aI_ S (r + 1) s = nI (oa s) ∧ aI_ S (r + 2) s = nI (op s)
def OdB (ns n : Nat) (os oa op : Nat → Nat) : Prop := n ≤ 8 ∧ ∀ s, s < n → os s < ns ∧ oa s ≤ 99 ∧ 1 ≤ op s ∧ op s ≤ 1000
def RShp (SX SM : St) (n : Nat) (sw sh pr ls : Nat → Nat) (tn : Nat → Bool) : Prop := ShB n sw sh pr ls ∧ Shp SX 21 5 22 n sw sh pr ls tn ∧ Shp SM 0 9 6 n sw sh pr ls tn
def RStk (SX SM : St) (n : Nat) (kw kh kg ka : Nat → Nat) : Prop := StB n kw kh kg ka ∧ Stk SX 37 4 38 n kw kh kg ka ∧ Stk SM 0 17 13 n kw kh kg ka
def ROdr (SX SM : St) (ns n : Nat) (os oa op : Nat → Nat) : Prop := OdB ns n os oa op ∧ Odr SX 42 5 43 n os oa op ∧ Odr SM 0 22 17 n os oa op
def RS (SX SM : St) : Prop := ∃ (ns : Nat) (sw sh pr ls : Nat → Nat) (tn : Nat → Bool), RShp SX SM ns sw sh pr ls tn ∧ (∃ nk kw kh kg ka, RStk SX SM nk kw kh kg ka) ∧ (∃ no os oa op, ROdr SX SM ns no os oa op)
/-- pipes -/
def Pip (S : St) (a b r n : Nat) (lo gd st nm : Nat → Nat) (ag : Nat → Bool) (dr : Nat → Int32) : Prop :=
  gI_ S a b = nI n ∧ ∀ s, s < n → aI_ S r s = nI (lo s) ∧ aI_ S (r + 1) s = nI (gd s) ∧ aI_ S (r + 2) s = zb (ag s) ∧ aI_ S (r + 3) s = nI (st s) ∧ aI_ S (r + 4) s = dr s ∧ aI_ S (r + 5) s = nI (nm s)
def PiB (n : Nat) (lo gd st nm : Nat → Nat) (dr : Nat → Int32) : Prop := n ≤ 12 ∧ ∀ s, s < n → lo s ≤ 5 ∧ gd s ≤ 5 ∧ st s ≤ 255 ∧ nm s ≤ 7 ∧ -50 ≤ (dr s).toInt ∧ (dr s).toInt ≤ 50
def RP (SX SM : St) : Prop := ∃ (n : Nat) (lo gd st nm : Nat → Nat) (ag : Nat → Bool) (dr : Nat → Int32), PiB n lo gd st nm dr ∧ Pip SX 49 6 50 n lo gd st nm ag dr ∧ Pip SM 0 28 22 n lo gd st nm ag dr
/-- the tape -/
def Tap (S : St) (a b r n : Nat) (by_ : Nat → Nat) : Prop := gI_ S a b = nI n ∧ ∀ i, i < n → aI_ S r i = nI (by_ i)
def RT (SX SM : St) : Prop := ∃ (n : Nat) (by_ : Nat → Nat), (n ≤ 200 ∧ ∀ i, i < n → by_ i < 256) ∧ Tap SX 56 1 57 n by_ ∧ Tap SM 0 36 28 n by_
/-- laws that hold -/
def sv (o : Option Nat) : Int32 := match o with
  | none => -4
  | some n => nI n
def Acy (sc : Nat → Option Nat) : Prop := ∃ rk : Nat → Nat, ∀ i j, i < 8 → sc i = some j → j < 8 ∧ rk j < rk i
def Lws (S : St) (a b d e r lim many : Nat) (fr to ba le : Nat → Nat) (sc : Nat → Option Nat) : Prop :=
  gI_ S a b = nI lim ∧ gI_ S d e = nI many ∧ ∀ i, i < 8 → aI_ S r i = nI (fr i) ∧ aI_ S (r + 1) i = nI (to i) ∧ aI_ S (r + 2) i = nI (ba i) ∧ aI_ S (r + 3) i = nI (le i) ∧ aI_ S (r + 4) i = sv (sc i)
def LwB (lim many : Nat) (fr to ba le : Nat → Nat) (sc : Nat → Option Nat) : Prop :=
  lim ≤ 50 ∧ many ≤ 200 ∧ Acy sc ∧ ∀ i, i < 8 → (1800 ≤ fr i ∧ fr i ≤ 2000) ∧ (1800 ≤ to i ∧ to i ≤ 2000) ∧ ba i < 256 ∧ le i ≤ 5
def HL (SX : St) (L D : Nat) : Prop := gR_ SX 0 11 = L ∧ gR_ SX 0 12 = D ∧ ((L = 62 ∧ D = 68) ∨ (L = 68 ∧ D = 62))
def RLaw (SX SM : St) : Prop := ∃ (L D lim many : Nat) (fr to ba le : Nat → Nat) (sc : Nat → Option Nat), HL SX L D ∧ LwB lim many fr to ba le sc ∧ Lws SX L 5 L 6 (L + 1) lim many fr to ba le sc ∧ Lws SM 0 46 0 49 29 lim many fr to ba le sc
/-- sheets -/
def sl (o : Option Nat) : Int32 := match o with
  | none => -1
  | some n => nI n
def Sht (SX SM : St) (k sz : Nat) (ln : Option Nat) (ce : Nat → Int32) : Prop :=
  (sz ≤ 64 ∧ ∀ l, ln = some l → l ≤ 2) ∧ gI_ SX (75 + 2 * k) 0 = sl ln ∧ gI_ SX (75 + 2 * k) 1 = nI sz ∧ (∀ i, i < 64 → aI_ SX (76 + 2 * k) i = ce i) ∧ aI_ SM 39 k = sv ln ∧ aI_ SM 40 k = nI sz ∧ (∀ i, i < 64 → aI_ SM 41 (64 * k + i) = ce i)
def RH (SX SM : St) : Prop := ∀ k, k < 4 → ∃ sz ln ce, Sht SX SM k sz ln ce
def Rel_ (SX SM : St) : Prop := RB SX SM ∧ RS SX SM ∧ RP SX SM ∧ RT SX SM ∧ RLaw SX SM ∧ RH SX SM ∧ gI_ SX 61 5 = gI_ SM 0 41
/-! what stays when other places change -/
theorem BX.fr {p : Nat → Nat → Bool} {S S' : St} {k w h : Nat} {cr : Nat → Bool} {gr : Nat → Nat} (hb : BX S k w h cr gr) (hf : Fr p S S') (h1 : ∀ j, p k j = false) (h2 : ∀ j, p (k + 1) j = false) : BX S' k w h cr gr :=
  ⟨(hf.gI (h1 0)).trans hb.1, (hf.gI (h1 1)).trans hb.2.1, fun q hq => by rw [hf.gL (h1 2)]; exact hb.2.2.1 q hq, fun q hq => (hf.aI (h2 q)).trans (hb.2.2.2 q hq)⟩
theorem BM.fr {p : Nat → Nat → Bool} {S S' : St} {a b i : Nat} {cr : Nat → Bool} {gr : Nat → Nat} (hb : BM S a b i cr gr) (hf : Fr p S S') (h1 : ∀ j, p a j = false) (h2 : ∀ j, p b j = false) : BM S' a b i cr gr :=
  fun q hq => ⟨(hf.aI (h1 _)).trans (hb q hq).1, (hf.aI (h2 _)).trans (hb q hq).2⟩
theorem Brd.fr {p r : Nat → Nat → Bool} {SX SX' SM SM' : St} {w h : Nat} {cr : Nat → Bool} {gr : Nat → Nat} (hb : Brd SX SM w h cr gr) (hf : Fr p SX SX') (hg : Fr r SM SM') (h1 : ∀ j, p 1 j = false) (h2 : ∀ j, p 2 j = false) (h3 : r 0 0 = false) (h4 : r 0 1 = false) (h5 : ∀ j, r 1 j = false) (h6 : ∀ j, r 2 j = false) : Brd SX' SM' w h cr gr :=
  ⟨hb.1, hb.2.1, hb.2.2.1.fr hf h1 h2, (hg.gI h3).trans hb.2.2.2.1, (hg.gI h4).trans hb.2.2.2.2.1, hb.2.2.2.2.2.fr hg h5 h6⟩
theorem Act.fr {p r : Nat → Nat → Bool} {SX SX' SM SM' : St} {w h n nx : Nat} {ac : Nat → Nat → Bool} {ag : Nat → Nat → Nat} (hb : Act SX SM w h n nx ac ag) (hf : Fr p SX SX') (hg : Fr r SM SM') (h1 : p 3 1 = false) (h2 : p 3 2 = false) (h3 : ∀ k j, 5 ≤ k → k ≤ 20 → p k j = false) (h4 : r 0 6 = false) (h5 : ∀ j, r 4 j = false) (h6 : ∀ j, r 5 j = false) : Act SX' SM' w h n nx ac ag :=
  ⟨hb.1, (hf.gI h1).trans hb.2.1, (hf.gI h2).trans hb.2.2.1, (hg.gI h4).trans hb.2.2.2.1, fun j hj => ⟨(hb.2.2.2.2 j hj).1.fr hf (fun q => h3 _ q (by omega) (by omega)) (fun q => h3 _ q (by omega) (by omega)), (hb.2.2.2.2 j hj).2.1.fr hg h5 h6, (hb.2.2.2.2 j hj).2.2⟩⟩
theorem Wrl.fr {p r : Nat → Nat → Bool} {SX SX' SM SM' : St} {n : Nat} {dc : Nat → Nat → Bool} (hb : Wrl SX SM n dc) (hf : Fr p SX SX') (hg : Fr r SM SM') (h1 : p 0 5 = false) (h2 : ∀ j, p 36 j = false) (h3 : r 0 4 = false) (h4 : ∀ j, r 3 j = false) : Wrl SX' SM' n dc :=
  ⟨hb.1, (hf.gI h1).trans hb.2.1, (hg.gI h3).trans hb.2.2.1, fun i q hi hq => ⟨by rw [hf.aL (h2 i)]; exact (hb.2.2.2 i q hi hq).1, (hg.aI (h4 _)).trans (hb.2.2.2 i q hi hq).2⟩⟩
theorem Shp.fr {p : Nat → Nat → Bool} {S S' : St} {a b r n : Nat} {sw sh pr ls : Nat → Nat} {tn : Nat → Bool} (hb : Shp S a b r n sw sh pr ls tn) (hf : Fr p S S') (h1 : p a b = false) (h2 : ∀ k j, r ≤ k → k ≤ r + 4 → p k j = false) : Shp S' a b r n sw sh pr ls tn :=
  ⟨(hf.gI h1).trans hb.1, fun s hs => by
    obtain ⟨a1, a2, a3, a4, a5⟩ := hb.2 s hs
    exact ⟨(hf.aI (h2 _ _ (by omega) (by omega))).trans a1, (hf.aI (h2 _ _ (by omega) (by omega))).trans a2, (hf.aI (h2 _ _ (by omega) (by omega))).trans a3, (hf.aI (h2 _ _ (by omega) (by omega))).trans a4, (hf.aI (h2 _ _ (by omega) (by omega))).trans a5⟩⟩
theorem Stk.fr {p : Nat → Nat → Bool} {S S' : St} {a b r n : Nat} {kw kh kg ka : Nat → Nat} (hb : Stk S a b r n kw kh kg ka) (hf : Fr p S S') (h1 : p a b = false) (h2 : ∀ k j, r ≤ k → k ≤ r + 3 → p k j = false) : Stk S' a b r n kw kh kg ka :=
  ⟨(hf.gI h1).trans hb.1, fun s hs => by
    obtain ⟨a1, a2, a3, a4⟩ := hb.2 s hs
    exact ⟨(hf.aI (h2 _ _ (by omega) (by omega))).trans a1, (hf.aI (h2 _ _ (by omega) (by omega))).trans a2, (hf.aI (h2 _ _ (by omega) (by omega))).trans a3, (hf.aI (h2 _ _ (by omega) (by omega))).trans a4⟩⟩
theorem Odr.fr {p : Nat → Nat → Bool} {S S' : St} {a b r n : Nat} {os oa op : Nat → Nat} (hb : Odr S a b r n os oa op) (hf : Fr p S S') (h1 : p a b = false) (h2 : ∀ k j, r ≤ k → k ≤ r + 2 → p k j = false) : Odr S' a b r n os oa op :=
  ⟨(hf.gI h1).trans hb.1, fun s hs => by
    obtain ⟨a1, a2, a3⟩ := hb.2 s hs
    exact ⟨(hf.aI (h2 _ _ (by omega) (by omega))).trans a1, (hf.aI (h2 _ _ (by omega) (by omega))).trans a2, (hf.aI (h2 _ _ (by omega) (by omega))).trans a3⟩⟩
theorem Pip.fr {p : Nat → Nat → Bool} {S S' : St} {a b r n : Nat} {lo gd st nm : Nat → Nat} {ag : Nat → Bool} {dr : Nat → Int32} (hb : Pip S a b r n lo gd st nm ag dr) (hf : Fr p S S') (h1 : p a b = false) (h2 : ∀ k j, r ≤ k → k ≤ r + 5 → p k j = false) : Pip S' a b r n lo gd st nm ag dr :=
  ⟨(hf.gI h1).trans hb.1, fun s hs => by
    obtain ⟨a1, a2, a3, a4, a5, a6⟩ := hb.2 s hs
    exact ⟨(hf.aI (h2 _ _ (by omega) (by omega))).trans a1, (hf.aI (h2 _ _ (by omega) (by omega))).trans a2, (hf.aI (h2 _ _ (by omega) (by omega))).trans a3, (hf.aI (h2 _ _ (by omega) (by omega))).trans a4, (hf.aI (h2 _ _ (by omega) (by omega))).trans a5, (hf.aI (h2 _ _ (by omega) (by omega))).trans a6⟩⟩
theorem Tap.fr {p : Nat → Nat → Bool} {S S' : St} {a b r n : Nat} {by_ : Nat → Nat} (hb : Tap S a b r n by_) (hf : Fr p S S') (h1 : p a b = false) (h2 : ∀ j, p r j = false) : Tap S' a b r n by_ :=
  ⟨(hf.gI h1).trans hb.1, fun s hs => (hf.aI (h2 s)).trans (hb.2 s hs)⟩
theorem Lws.fr {p : Nat → Nat → Bool} {S S' : St} {a b d e r lim many : Nat} {fr to ba le : Nat → Nat} {sc : Nat → Option Nat} (hb : Lws S a b d e r lim many fr to ba le sc) (hf : Fr p S S') (h1 : p a b = false) (h3 : p d e = false) (h2 : ∀ k j, r ≤ k → k ≤ r + 4 → p k j = false) : Lws S' a b d e r lim many fr to ba le sc :=
  ⟨(hf.gI h1).trans hb.1, (hf.gI h3).trans hb.2.1, fun s hs => by
    obtain ⟨a1, a2, a3, a4, a5⟩ := hb.2.2 s hs
    exact ⟨(hf.aI (h2 _ _ (by omega) (by omega))).trans a1, (hf.aI (h2 _ _ (by omega) (by omega))).trans a2, (hf.aI (h2 _ _ (by omega) (by omega))).trans a3, (hf.aI (h2 _ _ (by omega) (by omega))).trans a4, (hf.aI (h2 _ _ (by omega) (by omega))).trans a5⟩⟩
/-- places of the class and of the reference that a relation speaks of: 0 burl, 1 shop, 2 pipes, 3 tape, 4 laws, 5 sheets, 6 fault -/
def plX (i k j : Nat) : Bool := match i with
  | 0 => k == 1 || k == 2 || (k == 3 && (j == 1 || j == 2)) || (Nat.ble 5 k && Nat.ble k 20) || (k == 0 && j == 5) || k == 36
  | 1 => (k == 21 && j == 5) || (Nat.ble 22 k && Nat.ble k 26) || (k == 37 && j == 4) || (Nat.ble 38 k && Nat.ble k 41) || (k == 42 && j == 5) || (Nat.ble 43 k && Nat.ble k 45)
  | 2 => (k == 49 && j == 6) || (Nat.ble 50 k && Nat.ble k 55)
  | 3 => (k == 56 && j == 1) || k == 57
  | 4 => (k == 0 && (j == 11 || j == 12)) || (Nat.ble 62 k && Nat.ble k 73)
  | 5 => Nat.ble 75 k && Nat.ble k 82
  | _ => k == 61 && j == 5
def plM (i k j : Nat) : Bool := match i with
  | 0 => (k == 0 && (j == 0 || j == 1 || j == 4 || j == 6)) || (Nat.ble 1 k && Nat.ble k 5)
  | 1 => (k == 0 && (j == 9 || j == 17 || j == 22)) || (Nat.ble 6 k && Nat.ble k 10) || (Nat.ble 13 k && Nat.ble k 19)
  | 2 => (k == 0 && j == 28) || (Nat.ble 22 k && Nat.ble k 27)
  | 3 => (k == 0 && j == 36) || k == 28
  | 4 => (k == 0 && (j == 46 || j == 49)) || (Nat.ble 29 k && Nat.ble k 33)
  | 5 => Nat.ble 39 k && Nat.ble k 41
  | _ => k == 0 && j == 41
/-- p leaves the places of relation i alone -/
def kp (pl : Nat → Nat → Nat → Bool) (i : Nat) (p : Nat → Nat → Bool) : Prop := ∀ k j, pl i k j = true → p k j = false
theorem RB.fr {p r : Nat → Nat → Bool} {SX SX' SM SM' : St} (h : RB SX SM) (hf : Fr p SX SX') (hg : Fr r SM SM') (h1 : kp plX 0 p) (h2 : kp plM 0 r) : RB SX' SM' := by
  obtain ⟨w, hh, cr, gr, a, ⟨n, nx, ac, ag, b⟩, ⟨nw, dc, c⟩⟩ := h
  refine ⟨w, hh, cr, gr, a.fr hf hg (fun j => h1 _ _ ?_) (fun j => h1 _ _ ?_) (h2 _ _ ?_) (h2 _ _ ?_) (fun j => h2 _ _ ?_) (fun j => h2 _ _ ?_), ⟨n, nx, ac, ag, b.fr hf hg (h1 _ _ ?_) (h1 _ _ ?_) (fun k j z1 z2 => h1 _ _ ?_) (h2 _ _ ?_) (fun j => h2 _ _ ?_) (fun j => h2 _ _ ?_)⟩, ⟨nw, dc, c.fr hf hg (h1 _ _ ?_) (fun j => h1 _ _ ?_) (h2 _ _ ?_) (fun j => h2 _ _ ?_)⟩⟩
  all_goals first | rfl | (simp [plX, plM, Nat.ble_eq, z1, z2])
theorem RS.fr {p r : Nat → Nat → Bool} {SX SX' SM SM' : St} (h : RS SX SM) (hf : Fr p SX SX') (hg : Fr r SM SM') (h1 : kp plX 1 p) (h2 : kp plM 1 r) : RS SX' SM' := by
  obtain ⟨ns, sw, sh, pr, ls, tn, ⟨a0, a1, a2⟩, ⟨nk, kw, kh, kg, ka, b0, b1, b2⟩, ⟨no, os, oa, op, c0, c1, c2⟩⟩ := h
  refine ⟨ns, sw, sh, pr, ls, tn, ⟨a0, a1.fr hf (h1 _ _ ?_) (fun k j z1 z2 => h1 _ _ ?_), a2.fr hg (h2 _ _ ?_) (fun k j z1 z2 => h2 _ _ ?_)⟩, ⟨nk, kw, kh, kg, ka, b0, b1.fr hf (h1 _ _ ?_) (fun k j z1 z2 => h1 _ _ ?_), b2.fr hg (h2 _ _ ?_) (fun k j z1 z2 => h2 _ _ ?_)⟩, ⟨no, os, oa, op, c0, c1.fr hf (h1 _ _ ?_) (fun k j z1 z2 => h1 _ _ ?_), c2.fr hg (h2 _ _ ?_) (fun k j z1 z2 => h2 _ _ ?_)⟩⟩
  all_goals first | rfl | (simp only [plX, plM, Bool.or_eq_true, Bool.and_eq_true, Nat.ble_eq, beq_iff_eq]; omega)
theorem RP.fr {p r : Nat → Nat → Bool} {SX SX' SM SM' : St} (h : RP SX SM) (hf : Fr p SX SX') (hg : Fr r SM SM') (h1 : kp plX 2 p) (h2 : kp plM 2 r) : RP SX' SM' := by
  obtain ⟨n, lo, gd, st, nm, ag, dr, a0, a1, a2⟩ := h
  refine ⟨n, lo, gd, st, nm, ag, dr, a0, a1.fr hf (h1 _ _ ?_) (fun k j z1 z2 => h1 _ _ ?_), a2.fr hg (h2 _ _ ?_) (fun k j z1 z2 => h2 _ _ ?_)⟩
  all_goals first | rfl | (simp only [plX, plM, Bool.or_eq_true, Bool.and_eq_true, Nat.ble_eq, beq_iff_eq]; omega)
theorem RT.fr {p r : Nat → Nat → Bool} {SX SX' SM SM' : St} (h : RT SX SM) (hf : Fr p SX SX') (hg : Fr r SM SM') (h1 : kp plX 3 p) (h2 : kp plM 3 r) : RT SX' SM' := by
  obtain ⟨n, y, a0, a1, a2⟩ := h
  refine ⟨n, y, a0, a1.fr hf (h1 _ _ ?_) (fun j => h1 _ _ ?_), a2.fr hg (h2 _ _ ?_) (fun j => h2 _ _ ?_)⟩
  all_goals first | rfl | (simp only [plX, plM, Bool.or_eq_true, Bool.and_eq_true, Nat.ble_eq, beq_iff_eq]; omega)
theorem RLaw.fr {p r : Nat → Nat → Bool} {SX SX' SM SM' : St} (h : RLaw SX SM) (hf : Fr p SX SX') (hg : Fr r SM SM') (h1 : kp plX 4 p) (h2 : kp plM 4 r) : RLaw SX' SM' := by
  obtain ⟨L, D, lim, many, fr, to, ba, le, sc, ⟨e1, e2, e3⟩, a0, a1, a2⟩ := h
  refine ⟨L, D, lim, many, fr, to, ba, le, sc, ⟨(hf.gR (h1 _ _ ?_)).trans e1, (hf.gR (h1 _ _ ?_)).trans e2, e3⟩, a0, a1.fr hf (h1 _ _ ?_) (h1 _ _ ?_) (fun k j z1 z2 => h1 _ _ ?_), a2.fr hg (h2 _ _ ?_) (h2 _ _ ?_) (fun k j z1 z2 => h2 _ _ ?_)⟩
  all_goals first | rfl | (simp only [plX, plM, Bool.or_eq_true, Bool.and_eq_true, Nat.ble_eq, beq_iff_eq]; omega)
theorem RH.fr {p r : Nat → Nat → Bool} {SX SX' SM SM' : St} (h : RH SX SM) (hf : Fr p SX SX') (hg : Fr r SM SM') (h1 : kp plX 5 p) (h2 : kp plM 5 r) : RH SX' SM' := by
  intro k hk
  obtain ⟨sz, ln, ce, a0, a1, a2, a3, a4, a5, a6⟩ := h k hk
  refine ⟨sz, ln, ce, a0, (hf.gI (h1 _ _ ?_)).trans a1, (hf.gI (h1 _ _ ?_)).trans a2, fun i hi => (hf.aI (h1 _ _ ?_)).trans (a3 i hi), (hg.aI (h2 _ _ ?_)).trans a4, (hg.aI (h2 _ _ ?_)).trans a5, fun i hi => (hg.aI (h2 _ _ ?_)).trans (a6 i hi)⟩
  all_goals first | rfl | (simp only [plX, plM, Bool.or_eq_true, Bool.and_eq_true, Nat.ble_eq, beq_iff_eq]; omega)
theorem Rel_.fr {p r : Nat → Nat → Bool} {SX SX' SM SM' : St} (h : Rel_ SX SM) (hf : Fr p SX SX') (hg : Fr r SM SM') (h1 : ∀ i, i < 7 → kp plX i p) (h2 : ∀ i, i < 7 → kp plM i r) : Rel_ SX' SM' :=
  ⟨h.1.fr hf hg (h1 0 (by omega)) (h2 0 (by omega)), h.2.1.fr hf hg (h1 1 (by omega)) (h2 1 (by omega)), h.2.2.1.fr hf hg (h1 2 (by omega)) (h2 2 (by omega)), h.2.2.2.1.fr hf hg (h1 3 (by omega)) (h2 3 (by omega)), h.2.2.2.2.1.fr hf hg (h1 4 (by omega)) (h2 4 (by omega)), h.2.2.2.2.2.1.fr hf hg (h1 5 (by omega)) (h2 5 (by omega)), by
    rw [hf.gI (h1 6 (by omega) _ _ rfl), hg.gI (h2 6 (by omega) _ _ rfl)]; exact h.2.2.2.2.2.2⟩
