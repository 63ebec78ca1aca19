/-! the saw: the two tallies -/
theorem md8 {v : Nat} (h : v < 2 ^ 31) : nI v - nI v / 8 * 8 = nI (v % 8) := by
  have a : nI v / 8 = nI (v / 8) := nI_div (b := 8) h (by omega)
  have b : nI (v / 8) * 8 = nI (v / 8 * 8) := nI_mul _ 8
  rw [a, b, nI_sub (by omega)]; exact congrArg nI (by omega)
theorem md100 {v : Nat} (h : v < 2 ^ 31) : nI v - nI v / 100 * 100 = nI (v % 100) := by
  have a : nI v / 100 = nI (v / 100) := nI_div (b := 100) h (by omega)
  have b : nI (v / 100) * 100 = nI (v / 100 * 100) := nI_mul _ 100
  rw [a, b, nI_sub (by omega)]; exact congrArg nI (by omega)
theorem bl_dec {W H : Nat} {b : Bk} (h : okb W H b) (hW : W ≤ 8) (hH : H ≤ 8) : nI (blb b) - nI (blb b) / 8 * 8 = nI b.x ∧ nI (blb b) / 8 - nI (blb b) / 8 / 8 * 8 = nI b.y ∧ (nI (blb b) / 64 - nI (blb b) / 64 / 8 * 8) + 1 = nI b.w ∧ nI (blb b) / 512 + 1 = nI b.h := by
  obtain ⟨h1, h2, h3, h4⟩ := h
  have e : blb b = 512 * (b.h - 1) + 64 * (b.w - 1) + (8 * b.y + b.x) := rfl
  have l : blb b < 4096 := by omega
  have a : nI (blb b) / 8 = nI (blb b / 8) := nI_div (b := 8) (by omega) (by omega)
  have a2 : nI (blb b) / 64 = nI (blb b / 64) := nI_div (b := 64) (by omega) (by omega)
  have a3 : nI (blb b) / 512 = nI (blb b / 512) := nI_div (b := 512) (by omega) (by omega)
  refine ⟨?_, ?_, ?_, ?_⟩
  · rw [md8 (by omega)]; exact congrArg nI (by omega)
  · rw [a, md8 (by omega)]; exact congrArg nI (by omega)
  · have q : blb b / 64 = 8 * (b.h - 1) + (b.w - 1) := by omega
    rw [a2, md8 (by omega), q]; exact (nI_add _ 1).trans (congrArg nI (by omega))
  · rw [a3]; exact (nI_add _ 1).trans (congrArg nI (by omega))
theorem z00 : nI 0 ≤ (0 : Int32) := by decide
theorem z128 : ¬ (128 : Int32) ≤ nI 127 := by decide
def Cnt (v1 q0 : Int32) (t : Tl) : Prop := ∀ s0, s0 < 8 → v1 - 10 = nI s0 → q0 = nI (t.q s0)
theorem tb_m {n W H : Nat} {S : St} {b : Bk} {L : List Bk} {t : Tl} {d : Dc} {v1 q0 : Int32} (hd : fX12_deed S (nI b.x) (nI b.y) (nI b.w) (nI b.h) (-1) = some (dcc d)) (hk : okb W H b) (hW : W ≤ 8) (hH : H ≤ 8) (hn : n ≤ 8) (dk : Dok n b d) (st : Skk blb 12 S (b :: L)) (cn : Cnt v1 q0 t) (hb : L.length < 64) (hl : (nx d b L t).1.length ≤ 64) : ∃ q' S', bX12_sawn_70 v1 (nI t.p) (nI t.c) (nI t.w) q0 (nI (L.length + 1)) S = some (.inl (nI (nx d b L t).2.p, nI (nx d b L t).2.c, nI (nx d b L t).2.w, q', nI (nx d b L t).1.length, S')) ∧ Skk blb 12 S' (nx d b L t).1 ∧ Cnt v1 q' (nx d b L t).2 ∧ Fr (fun a _ => a == 12) S S' := by
  obtain ⟨d1, d2, d3, d4⟩ := bl_dec hk hW hH
  obtain ⟨k1, k2, k3, k4⟩ := hk
  obtain ⟨s1, st⟩ := st
  have g1 : ¬ nI (L.length + 1) ≤ (0 : Int32) := nI_ge (show 0 < L.length + 1 by omega) (by omega)
  have g2 : nI (L.length + 1) + (-1) = nI L.length := nI_m1 (by omega)
  unfold bX12_sawn_70
  rw [if_neg g1, g2, rI_n hb (by omega), b1_s, b1_s, b1_s, b1_s, s1, d1, d2, d3, d4, hd, b1_s]
  rcases d with (_ | s) | k | k
  ·
    have e5 : dcc (.inl none) = -5 := rfl
    rw [if_pos e5, b1_s, nI_mul, nI_add]
    exact ⟨_, _, rfl, st, cn, Fr.refl _ _⟩
  ·
    have hs : s < n := dk
    have e5 : dcc (.inl (some s)) = nI s := rfl
    have u1 : ¬ (100 : Int32) ≤ nI s := nI_ge (show s < 100 by omega) (by decide)
    have e1 : nI t.p + 1 = nI (t.p + 1) := nI_add _ 1
    rw [e5, if_neg (m5_ne (by omega)), if_neg u1, e1]
    by_cases c : nI s = v1 - 10
    · rw [if_pos c]
      refine ⟨_, _, rfl, st, fun s0 h0 e => ?_, Fr.refl _ _⟩
      have z : s0 = s := (nI_eq (by omega) (by omega)).mp (e.symm.trans c.symm)
      show _ = nI (if s0 = s then t.q s0 + 1 else t.q s0)
      rw [if_pos z, cn s0 h0 e]; exact nI_add _ 1
    · rw [if_neg c]
      refine ⟨_, _, rfl, st, fun s0 h0 e => ?_, Fr.refl _ _⟩
      have z : ¬ s0 = s := fun z => c (by rw [← z]; exact e.symm)
      show _ = nI (if s0 = s then t.q s0 + 1 else t.q s0)
      rw [if_neg z, cn s0 h0 e]; exact nI_add _ 0
  ·
    obtain ⟨q1, q2⟩ : 1 ≤ k ∧ k < b.w := dk
    have e5 : dcc (.inr (.inl k)) = nI (100 + k) := rfl
    have u1 : (100 : Int32) ≤ nI (100 + k) := nI_le (show 100 ≤ 100 + k by omega) (by omega)
    have u2 : ¬ (200 : Int32) ≤ nI (100 + k) := nI_ge (show 100 + k < 200 by omega) (by decide)
    have hl' : L.length + 2 ≤ 64 := hl
    have a1 : nI L.length + 2 = nI (L.length + 2) := nI_add _ 2
    have a2 : nI L.length + 1 = nI (L.length + 1) := nI_add _ 1
    have a3 : nI (100 + k) - nI (100 + k) / 100 * 100 = nI k := (md100 (by omega)).trans (congrArg nI (by omega))
    have a4 : nI t.c + 1 = nI (t.c + 1) := nI_add _ 1
    rw [e5, if_neg (m5_ne (by omega)), if_pos u1, if_neg u2, a3, blockAt_e _ q1 k2, b1_s, b1_s, wI_n (by omega) (by omega), b1_s, if_neg u2, nI_add, nI_sub (by omega), blockAt_e _ (by omega) k2, b1_s, a2, wI_n (by omega) (by omega), b1_s, a1, a4]
    refine ⟨_, _, rfl, ⟨?_, ?_, ?_⟩, cn, Fr.pA rfl (Fr.pA rfl (Fr.refl _ _))⟩
    · simp [gI_pI, gI_pL, gI_pA, gI_pB, gI_pR, gI_pW, gL_pI, gL_pL, gL_pA, gL_pB, gL_pR, gL_pW, aI_pI, aI_pL, aI_pA, aI_pB, aI_pR, aI_pW, aL_pI, aL_pL, aL_pA, aL_pB, aL_pR, aL_pW, gR_pI, gR_pL, gR_pA, gR_pB, gR_pR, gR_pW, blb]
    · simp [gI_pI, gI_pL, gI_pA, gI_pB, gI_pR, gI_pW, gL_pI, gL_pL, gL_pA, gL_pB, gL_pR, gL_pW, aI_pI, aI_pL, aI_pA, aI_pB, aI_pR, aI_pW, aL_pI, aL_pL, aL_pA, aL_pB, aL_pR, aL_pW, gR_pI, gR_pL, gR_pA, gR_pB, gR_pR, gR_pW, blb]
    · exact st.cong (fun i hi => by simp only [gI_pI, gI_pL, gI_pA, gI_pB, gI_pR, gI_pW, gL_pI, gL_pL, gL_pA, gL_pB, gL_pR, gL_pW, aI_pI, aI_pL, aI_pA, aI_pB, aI_pR, aI_pW, aL_pI, aL_pL, aL_pA, aL_pB, aL_pR, aL_pW, gR_pI, gR_pL, gR_pA, gR_pB, gR_pR, gR_pW]; rw [if_neg (by omega), if_neg (by omega)])
  ·
    obtain ⟨q1, q2⟩ : 1 ≤ k ∧ k < b.h := dk
    have e5 : dcc (.inr (.inr k)) = nI (200 + k) := rfl
    have u1 : (100 : Int32) ≤ nI (200 + k) := nI_le (show 100 ≤ 200 + k by omega) (by omega)
    have u2 : (200 : Int32) ≤ nI (200 + k) := nI_le (show 200 ≤ 200 + k by omega) (by omega)
    have hl' : L.length + 2 ≤ 64 := hl
    have a1 : nI L.length + 2 = nI (L.length + 2) := nI_add _ 2
    have a2 : nI L.length + 1 = nI (L.length + 1) := nI_add _ 1
    have a3 : nI (200 + k) - nI (200 + k) / 100 * 100 = nI k := (md100 (by omega)).trans (congrArg nI (by omega))
    have a4 : nI t.c + 1 = nI (t.c + 1) := nI_add _ 1
    rw [e5, if_neg (m5_ne (by omega)), if_pos u1, if_pos u2, a3, blockAt_e _ k1 q1, b1_s, b1_s, wI_n (by omega) (by omega), b1_s, if_pos u2, nI_add, nI_sub (by omega), blockAt_e _ k1 (by omega), b1_s, a2, wI_n (by omega) (by omega), b1_s, a1, a4]
    refine ⟨_, _, rfl, ⟨?_, ?_, ?_⟩, cn, Fr.pA rfl (Fr.pA rfl (Fr.refl _ _))⟩
    · simp [gI_pI, gI_pL, gI_pA, gI_pB, gI_pR, gI_pW, gL_pI, gL_pL, gL_pA, gL_pB, gL_pR, gL_pW, aI_pI, aI_pL, aI_pA, aI_pB, aI_pR, aI_pW, aL_pI, aL_pL, aL_pA, aL_pB, aL_pR, aL_pW, gR_pI, gR_pL, gR_pA, gR_pB, gR_pR, gR_pW, blb]
    · simp [gI_pI, gI_pL, gI_pA, gI_pB, gI_pR, gI_pW, gL_pI, gL_pL, gL_pA, gL_pB, gL_pR, gL_pW, aI_pI, aI_pL, aI_pA, aI_pB, aI_pR, aI_pW, aL_pI, aL_pL, aL_pA, aL_pB, aL_pR, aL_pW, gR_pI, gR_pL, gR_pA, gR_pB, gR_pR, gR_pW, blb]
    · exact st.cong (fun i hi => by simp only [gI_pI, gI_pL, gI_pA, gI_pB, gI_pR, gI_pW, gL_pI, gL_pL, gL_pA, gL_pB, gL_pR, gL_pW, aI_pI, aI_pL, aI_pA, aI_pB, aI_pR, aI_pW, aL_pI, aL_pL, aL_pA, aL_pB, aL_pR, aL_pW, gR_pI, gR_pL, gR_pA, gR_pB, gR_pR, gR_pW]; rw [if_neg (by omega), if_neg (by omega)])
theorem tl_x {n W H : Nat} {S : St} {D : Bk → Dc} (hD : ∀ S', Fr pTal S S' → ∀ b, okb W H b → fX6_decide S' (nI b.x) (nI b.y) (nI b.w) (nI b.h) = some (dcc (D b))) (dk : ∀ b, okb W H b → Dok n b (D b)) (hW : W ≤ 8) (hH : H ≤ 8) (hn : n ≤ 8) {L : List Bk} {t : Tl} (ok : okl W H L) (ar : arl L ≤ 64) (mu : mul_ L ≤ 127) (st : Skk plb 34 S L) (ct : CtX S t) : ∃ r, lp (fun w32 : Int32 × Int32 × St => bX6_tally_65  w32.1 w32.2.1 w32.2.2) 5000 (nI L.length, 0, S) = some r ∧ CtX r (tal D 127 L t) ∧ Fr pTal S r := by
  refine lp_inv (body := fun w32 : Int32 × Int32 × St => bX6_tally_65  w32.1 w32.2.1 w32.2.2) (fun i s => ∃ L' t', s.1 = nI (List.length L') ∧ s.2.1 = nI i ∧ okl W H L' ∧ arl L' ≤ 64 ∧ mul_ L' + i ≤ 127 ∧ Skk plb 34 s.2.2 L' ∧ CtX s.2.2 t' ∧ Fr pTal S s.2.2 ∧ tal D (127 - i) L' t' = tal D 127 L t) (fun r => CtX r (tal D 127 L t) ∧ Fr pTal S r) 127 (by omega) ⟨L, t, rfl, rfl, ok, ar, mu, st, ct, Fr.refl _ _, rfl⟩ ?_ ?_
  · rintro i ⟨s1, s2, s3⟩ hi ⟨L', t', h1, h2, h3, h4, h5, h6, h7, h8, h9⟩
    obtain rfl : s1 = _ := h1
    obtain rfl : s2 = _ := h2
    have hlt : ¬ (128 : Int32) ≤ nI i := nI_ge (show i < 128 by omega) (by decide)
    cases L' with
    | nil =>
      right
      refine ⟨s3, ?_, ?_, h8⟩
      · show bX6_tally_65 (nI 0) (nI i) s3 = _
        unfold bX6_tally_65
        rw [if_neg hlt, if_pos z00]
      · rw [tal_nil] at h9; rw [← h9]; exact h7
    | cons b K =>
      left
      have lk := len_ar _ h3
      have nk := nx_ok (t := t') h3 (dk b h3.1)
      have ln := len_ar _ nk.1
      simp only [List.length_cons] at lk
      obtain ⟨S', e, x1, x2, x3⟩ := tb_x (t := t') (hD s3 h8 b h3.1) h3.1 hW hH hn (dk b h3.1) h6.2 h7 (by omega)
      refine ⟨(nI (nx (D b) b K t').1.length, nI (i + 1), S'), ?_, (nx (D b) b K t').1, (nx (D b) b K t').2, rfl, rfl, nk.1, by omega, by omega, x1, x2, h8.trans x3, ?_⟩
      · show bX6_tally_65 (nI (K.length + 1)) (nI i) s3 = _
        have g1 : ¬ nI (K.length + 1) ≤ (0 : Int32) := nI_ge (show 0 < K.length + 1 by omega) (by omega)
        have g2 : nI (K.length + 1) + (-1) = nI K.length := nI_m1 (by omega)
        have g3 : nI i + 1 = nI (i + 1) := nI_add _ 1
        unfold bX6_tally_65
        rw [if_neg hlt, if_neg g1, g2, rI_n (by omega) (by omega), b1_s, h6.1, e, b1_s, g3]
      · rw [← h9, show 127 - i = (127 - (i + 1)) + 1 by omega]; rfl
  · rintro ⟨s1, s2, s3⟩ ⟨L', t', h1, h2, h3, h4, h5, h6, h7, h8, h9⟩
    obtain rfl : s1 = _ := h1
    obtain rfl : s2 = _ := h2
    cases L' with
    | nil =>
      refine ⟨s3, ?_, ?_, h8⟩
      · show bX6_tally_65 (nI 0) (nI 127) s3 = _
        unfold bX6_tally_65
        rw [if_neg z128, if_pos z00]
      · rw [tal_nil] at h9; rw [← h9]; exact h7
    | cons b K =>
      have := ar1 h3.1
      simp only [mul_] at h5
      omega
theorem tl_m {n W H : Nat} {S : St} {D : Bk → Dc} {v1 : Int32} (hD : ∀ S', Fr (fun a _ => a == 12) S S' → ∀ b, okb W H b → fX12_deed S' (nI b.x) (nI b.y) (nI b.w) (nI b.h) (-1) = some (dcc (D b))) (dk : ∀ b, okb W H b → Dok n b (D b)) (hW : W ≤ 8) (hH : H ≤ 8) (hn : n ≤ 8) {L : List Bk} {t : Tl} {q0 : Int32} (ok : okl W H L) (ar : arl L ≤ 64) (mu : mul_ L ≤ 127) (st : Skk blb 12 S L) (cn : Cnt v1 q0 t) : ∃ r, lp (fun w26 : Int32 × Int32 × Int32 × Int32 × Int32 × St => bX12_sawn_70 v1 w26.1 w26.2.1 w26.2.2.1 w26.2.2.2.1 w26.2.2.2.2.1 w26.2.2.2.2.2) 5000 (nI t.p, nI t.c, nI t.w, q0, nI L.length, S) = some r ∧ (r.1 = nI (tal D 127 L t).p ∧ r.2.1 = nI (tal D 127 L t).c ∧ r.2.2.1 = nI (tal D 127 L t).w ∧ Cnt v1 r.2.2.2.1 (tal D 127 L t)) ∧ Fr (fun a _ => a == 12) S r.2.2.2.2 := by
  refine lp_inv (body := fun w26 : Int32 × Int32 × Int32 × Int32 × Int32 × St => bX12_sawn_70 v1 w26.1 w26.2.1 w26.2.2.1 w26.2.2.2.1 w26.2.2.2.2.1 w26.2.2.2.2.2) (fun i s => ∃ (L' : List Bk) (t' : Tl), s.1 = nI t'.p ∧ s.2.1 = nI t'.c ∧ s.2.2.1 = nI t'.w ∧ s.2.2.2.2.1 = nI (List.length L') ∧ okl W H L' ∧ arl L' ≤ 64 ∧ mul_ L' + i ≤ 127 ∧ Skk blb 12 s.2.2.2.2.2 L' ∧ Cnt v1 s.2.2.2.1 t' ∧ Fr (fun a _ => a == 12) S s.2.2.2.2.2 ∧ tal D (127 - i) L' t' = tal D 127 L t) (fun r => (r.1 = nI (tal D 127 L t).p ∧ r.2.1 = nI (tal D 127 L t).c ∧ r.2.2.1 = nI (tal D 127 L t).w ∧ Cnt v1 r.2.2.2.1 (tal D 127 L t)) ∧ Fr (fun a _ => a == 12) S r.2.2.2.2) 127 (by omega) ⟨L, t, rfl, rfl, rfl, rfl, ok, ar, mu, st, cn, Fr.refl _ _, rfl⟩ ?_ ?_
  · rintro i ⟨s1, s2, s3, s4, s5, s6⟩ hi ⟨L', t', e1, e2, e3, e4, h3, h4, h5, h6, h7, h8, h9⟩
    obtain rfl : s1 = _ := e1
    obtain rfl : s2 = _ := e2
    obtain rfl : s3 = _ := e3
    obtain rfl : s5 = _ := e4
    cases L' with
    | nil =>
      right
      refine ⟨(nI t'.p, nI t'.c, nI t'.w, s4, s6), ?_, ?_, h8⟩
      · show bX12_sawn_70 v1 (nI t'.p) (nI t'.c) (nI t'.w) s4 (nI 0) s6 = _
        unfold bX12_sawn_70
        rw [if_pos z00]
      · rw [tal_nil] at h9; rw [← h9]; exact ⟨rfl, rfl, rfl, h7⟩
    | cons b K =>
      left
      have lk := len_ar _ h3
      have nk := nx_ok (t := t') h3 (dk b h3.1)
      have ln := len_ar _ nk.1
      simp only [List.length_cons] at lk
      obtain ⟨q', S', e, x1, x2, x3⟩ := tb_m (t := t') (hD s6 h8 b h3.1) h3.1 hW hH hn (dk b h3.1) h6 h7 (by omega) (by omega)
      refine ⟨_, e, (nx (D b) b K t').1, (nx (D b) b K t').2, rfl, rfl, rfl, rfl, nk.1, by omega, by omega, x1, x2, h8.trans x3, ?_⟩
      rw [← h9, show 127 - i = (127 - (i + 1)) + 1 by omega]; rfl
  · rintro ⟨s1, s2, s3, s4, s5, s6⟩ ⟨L', t', e1, e2, e3, e4, h3, h4, h5, h6, h7, h8, h9⟩
    obtain rfl : s1 = _ := e1
    obtain rfl : s2 = _ := e2
    obtain rfl : s3 = _ := e3
    obtain rfl : s5 = _ := e4
    cases L' with
    | nil =>
      refine ⟨(nI t'.p, nI t'.c, nI t'.w, s4, s6), ?_, ?_, h8⟩
      · show bX12_sawn_70 v1 (nI t'.p) (nI t'.c) (nI t'.w) s4 (nI 0) s6 = _
        unfold bX12_sawn_70
        rw [if_pos z00]
      · rw [tal_nil] at h9; rw [← h9]; exact ⟨rfl, rfl, rfl, h7⟩
    | cons b K =>
      have := ar1 h3.1
      simp only [mul_] at h5
      omega
theorem tal0_x {S : St} : ∃ r, lp (fun w24 : Int32 × St => bX6_tally_17  w24.1 w24.2) 5000 (0, pI_ (pI_ (pI_ S 27 11 0) 27 12 0) 27 13 0) = some r ∧ CtX r (0, 0, 0, fun _ => 0) ∧ Fr pTal S r := by
  have f0 : Fr pTal S (pI_ (pI_ (pI_ S 27 11 0) 27 12 0) 27 13 0) := Fr.pI rfl (Fr.pI rfl (Fr.pI rfl (Fr.refl _ _)))
  obtain ⟨r, e, h1, h2, h3⟩ := lp_inv (body := fun w24 : Int32 × St => bX6_tally_17  w24.1 w24.2) (fun i s => s.1 = nI i ∧ (gI_ s.2 27 11 = 0 ∧ gI_ s.2 27 12 = 0 ∧ gI_ s.2 27 13 = 0) ∧ Fr pTal S s.2 ∧ ∀ j, j < i → aI_ s.2 35 j = 0) (fun r => (gI_ r 27 11 = 0 ∧ gI_ r 27 12 = 0 ∧ gI_ r 27 13 = 0) ∧ Fr pTal S r ∧ ∀ j, j < 8 → aI_ r 35 j = 0) 8 (m := 5000) (s := (0, pI_ (pI_ (pI_ S 27 11 0) 27 12 0) 27 13 0)) (by omega) ⟨rfl, ⟨by simp [gI_pI, gI_pL, gI_pA, gI_pB, gI_pR, gI_pW, gL_pI, gL_pL, gL_pA, gL_pB, gL_pR, gL_pW, aI_pI, aI_pL, aI_pA, aI_pB, aI_pR, aI_pW, aL_pI, aL_pL, aL_pA, aL_pB, aL_pR, aL_pW, gR_pI, gR_pL, gR_pA, gR_pB, gR_pR, gR_pW], by simp [gI_pI, gI_pL, gI_pA, gI_pB, gI_pR, gI_pW, gL_pI, gL_pL, gL_pA, gL_pB, gL_pR, gL_pW, aI_pI, aI_pL, aI_pA, aI_pB, aI_pR, aI_pW, aL_pI, aL_pL, aL_pA, aL_pB, aL_pR, aL_pW, gR_pI, gR_pL, gR_pA, gR_pB, gR_pR, gR_pW], by simp [gI_pI, gI_pL, gI_pA, gI_pB, gI_pR, gI_pW, gL_pI, gL_pL, gL_pA, gL_pB, gL_pR, gL_pW, aI_pI, aI_pL, aI_pA, aI_pB, aI_pR, aI_pW, aL_pI, aL_pL, aL_pA, aL_pB, aL_pR, aL_pW, gR_pI, gR_pL, gR_pA, gR_pB, gR_pR, gR_pW]⟩, f0, fun j hj => by omega⟩
    (fun i s hi ⟨k1, k2, k3, k4⟩ => by
      left
      have g : ¬ (8 : Int32) ≤ nI i := nI_ge hi (by decide)
      have g1 : nI i + 1 = nI (i + 1) := nI_add _ 1
      refine ⟨(nI (i + 1), pA_ s.2 35 i 0), ?_, rfl, k2, Fr.pA rfl k3, fun j hj => ?_⟩
      · unfold bX6_tally_17
        rw [k1, if_neg g, wI_n hi (by omega), b1_s, g1]
      · simp only [gI_pI, gI_pL, gI_pA, gI_pB, gI_pR, gI_pW, gL_pI, gL_pL, gL_pA, gL_pB, gL_pR, gL_pW, aI_pI, aI_pL, aI_pA, aI_pB, aI_pR, aI_pW, aL_pI, aL_pL, aL_pA, aL_pB, aL_pR, aL_pW, gR_pI, gR_pL, gR_pA, gR_pB, gR_pR, gR_pW, true_and]
        by_cases z : j = i
        · rw [if_pos z]
        · rw [if_neg z]; exact k4 j (by omega))
    (fun s ⟨k1, k2, k3, k4⟩ => ⟨s.2, by
      have g : (8 : Int32) ≤ nI 8 := by decide
      unfold bX6_tally_17
      rw [k1, if_pos g], k2, k3, k4⟩)
  exact ⟨r, e, ⟨h1.1, h1.2.1, h1.2.2, h3⟩, h2⟩
theorem tally_x {n W H : Nat} {S : St} {D : Bk → Dc} (hD : ∀ S', Fr pTal S S' → ∀ b, okb W H b → fX6_decide S' (nI b.x) (nI b.y) (nI b.w) (nI b.h) = some (dcc (D b))) (dk : ∀ b, okb W H b → Dok n b (D b)) (hW : 1 ≤ W ∧ W ≤ 8) (hH : 1 ≤ H ∧ H ≤ 8) (hn : n ≤ 8) (g0 : gI_ S 1 0 = nI W) (g1 : gI_ S 1 1 = nI H) : ∃ r, fX6_tally S = some r ∧ CtX r (tal D 127 [(0, 0, W, H)] (0, 0, 0, fun _ => 0)) ∧ Fr pTal S r := by
  obtain ⟨r, e, c, f⟩ := tal0_x (S := S)
  have g0' : gI_ r 1 0 = nI W := by rw [f.gI rfl]; exact g0
  have g1' : gI_ r 1 1 = nI H := by rw [f.gI rfl]; exact g1
  have hm : W * H ≤ 64 := Nat.mul_le_mul hW.2 hH.2
  have hm1 : 1 ≤ W * H := Nat.mul_pos hW.1 hH.1
  have f2 : Fr pTal r (pA_ r 34 0 (nI (plb (0, 0, W, H)))) := Fr.pA rfl (Fr.refl _ _)
  obtain ⟨u, e2, c2, f3⟩ := tl_x (S := pA_ r 34 0 (nI (plb (0, 0, W, H)))) (L := [(0, 0, W, H)]) (t := (0, 0, 0, fun _ => 0)) (fun S' fr => hD S' ((f.trans f2).trans fr)) dk hW.2 hH.2 hn ⟨⟨hW.1, hH.1, by simp [Bk.x, Bk.w], by simp [Bk.y, Bk.h]⟩, trivial⟩ (by simp only [arl, Bk.w, Bk.h]; omega) (by simp only [mul_, Bk.w, Bk.h]; omega) ⟨by simp [gI_pI, gI_pL, gI_pA, gI_pB, gI_pR, gI_pW, gL_pI, gL_pL, gL_pA, gL_pB, gL_pR, gL_pW, aI_pI, aI_pL, aI_pA, aI_pB, aI_pR, aI_pW, aL_pI, aL_pL, aL_pA, aL_pB, aL_pR, aL_pW, gR_pI, gR_pL, gR_pA, gR_pB, gR_pR, gR_pW], trivial⟩ ⟨c.1, c.2.1, c.2.2.1, fun s hs => by simp only [gI_pI, gI_pL, gI_pA, gI_pB, gI_pR, gI_pW, gL_pI, gL_pL, gL_pA, gL_pB, gL_pR, gL_pW, aI_pI, aI_pL, aI_pA, aI_pB, aI_pR, aI_pW, aL_pI, aL_pL, aL_pA, aL_pB, aL_pR, aL_pW, gR_pI, gR_pL, gR_pA, gR_pB, gR_pR, gR_pW]; rw [if_neg (by omega)]; exact c.2.2.2 s hs⟩
  refine ⟨u, ?_, c2, (f.trans f2).trans f3⟩
  have ep : fX6_placeOf r 0 0 (nI W) (nI H) = some (nI (plb (0, 0, W, H))) := placeOf_e r (x := 0) (y := 0) hW.1 hH.1
  have ew : wI_ r 34 64 0 (nI (plb (0, 0, W, H))) = some (pA_ r 34 0 (nI (plb (0, 0, W, H)))) := wI_n (i := 0) (by omega) (by omega)
  have e2' : lp (fun w32 : Int32 × Int32 × St => bX6_tally_65  w32.1 w32.2.1 w32.2.2) 5000 (1, 0, pA_ r 34 0 (nI (plb (0, 0, W, H)))) = some u := e2
  unfold fX6_tally
  rw [oI_e, b1_s, oI_e, b1_s, oI_e, b1_s, e, b1_s, g0', g1', ep, b1_s, ew, b1_s, e2', b1_s]
