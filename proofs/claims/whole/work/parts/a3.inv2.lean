/-! BETWEEN THE TWO SIDES: undoing, the image, texts, the tape -/
theorem and255 (y : Int32) : ∃ b, b < 256 ∧ y &&& nI 255 = nI b := by
  refine ⟨(y.toBitVec &&& 255#32).toNat, ?_, ?_⟩
  · rw [BitVec.toNat_and]
    exact Nat.lt_of_le_of_lt Nat.and_le_right (by decide)
  · refine Int32.toBitVec_inj.1 ?_
    show y.toBitVec &&& 255#32 = BitVec.ofNat 32 (y.toBitVec &&& 255#32).toNat
    rw [BitVec.ofNat_toNat, BitVec.setWidth_eq]
theorem RS.row2 {σ : mSg} {m m' : Nat → Int32} (h : RS σ m) (e : ∀ i, i ≠ 1 → i ≠ 2 → i < 423 → m' i = m i) : RS σ m' := by
  obtain ⟨h1, nx, h2, h3, h4⟩ := h
  refine ⟨fun c k i hr => ?_, nx, h2, h3, fun a w ha hw => by rw [e _ (by omega) (by omega) (by omega)]; exact h4 a w ha hw⟩
  obtain ⟨g1, g2⟩ := rp_inv hr
  have g3 := (rp_lt hr).1
  have i1 : i ≠ 1 := by
    rintro rfl
    have z : some (99, 99) = some (c, k) := g1
    cases z
    omega
  have i2 : i ≠ 2 := by
    rintro rfl
    have z : some (99, 99) = some (c, k) := g1
    cases z
    omega
  rw [e i i1 i2 (by omega)]
  exact h1 c k i hr
section IN2
variable {n nc ns nd tp x hk a : Nat} {ls : List lLn} {B : Nat → Nat} {row : Nat → Nat → Int32} {σx σm σx' σm' : mSg} {th : Int32}
theorem IYc.und {f : Nat → Int32} {a' : Nat} (h : IYc n nc ns nd ls tp B x hk a row σx σm) (ha : a = a' + 1) (f1 : ∀ i, i < 423 → f i = row 0 i) (f2 : ∀ i, 423 ≤ i → f i = σm 1 i) (y : YA σx (row 0) a' (fun j => row (j + 1)) σx') (hM : MA σm f th a' (fun j => row (j + 1)) σm') : IY σx' σm' := by
  obtain ⟨h1, h2, h3, h4, ⟨t1, t2, t3, t4⟩, h6, ⟨k1, k2, k3, k4⟩, ⟨y1, y2, y3⟩, h9, h10⟩ := h
  obtain ⟨m1, mm, m2, m5, m00, m03, m08, m12, m15⟩ := hM
  obtain ⟨⟨nc', ns', nd', hB'⟩, r3, rg⟩ := y3 0 (by omega)
  have hn := h1.1.2
  have e : ∀ c, c < 5 ∨ (14 ≤ c ∧ c < 53) ∨ 163 ≤ c → σx' c = σx c := y.2.2
  have f3 : ∀ i, i < 3 → f i = σm 1 i := fun i hi => (f1 i (by omega)).trans (r3 i hi)
  have fg : GEO (σm 1) f n := fun s hs => ⟨(f1 _ (by omega)).trans (rg s hs).1, (f1 _ (by omega)).trans (rg s hs).2⟩
  refine ⟨n, nc', ns', nd', ls, tp, B, x, hk, _, _, ?_, ?_, ?_, ?_, ⟨?_, ?_, t3, fun k hk => ?_⟩, ?_, ⟨k1, ?_, ?_, fun z => ?_⟩, ⟨y.2.1, mm, ?_⟩, ?_, m15 h10⟩
  · rw [m1]; exact hB'.off (fun i hi => f1 i (by unfold rel at hi; omega))
  · rw [m1]; exact h2.off (fun i hi => by
      rcases hi with rfl | rfl | hi
      · exact f3 1 (by omega)
      · exact f3 2 (by omega)
      · exact f2 i hi)
  · rw [m1, f3 0 (by omega)]; exact h3
  · rw [m1, f3 1 (by omega)]; exact ⟨RS.row y.1 f1, LwY.cg h4.2 (fun c hc => e c (by omega))⟩
  · rw [e 1 (by omega)]; exact t1
  · rw [m08]; exact t2
  · rw [e 2 (by omega), m5]; exact t4 k hk
  · rw [e 0 (by omega), m12]; exact h6
  · rw [e 0 (by omega)]; exact k2
  · rw [m03]; exact k3
  · rw [m2]; exact (k4 z).cg (fun c hc => e c (by omega))
  · rw [m1]
    intro j hj
    obtain ⟨b1, b2, b3⟩ := y3 (j + 1) (by omega)
    exact ⟨b1, fun i hi => (b2 i hi).trans (f3 i hi).symm, fg.symm.trans b3⟩
  · rw [m1]; exact h9.cg fg (e 164 (by omega)) (e 165 (by omega)) (e 166 (by omega))
theorem IYc.sd {v : Int32} (h : IYc n nc ns nd ls tp B x hk a row σx σm) (y : RYs σx' (upd (σm 1) 13 v)) (e : ∀ c, c ≠ 5 → σx' c = σx c) (hM : MX σm (upd (σm 1) 13 v) th σm') : IY σx' σm' := by
  obtain ⟨h1, h2, h3, h4, ⟨t1, t2, t3, t4⟩, h6, ⟨k1, k2, k3, k4⟩, ⟨y1, y2, y3⟩, h9, h10⟩ := h
  obtain ⟨m1, m2, m4, m5, m00, m03, m06, m08, m12, m15⟩ := hM
  have hn := h1.1.2
  have fg : GEO (σm 1) (upd (σm 1) 13 v) n := fun s hs => ⟨upd_off (by omega), upd_off (by omega)⟩
  refine ⟨n, nc, ns, nd, ls, tp, B, x, hk, a, row, ?_, ?_, ?_, ?_, ⟨?_, ?_, t3, fun k hk => ?_⟩, ?_, ⟨k1, ?_, ?_, fun z => ?_⟩, ⟨?_, y2.mx m4 m06, ?_⟩, ?_, m15 h10⟩
  · rw [m1]; exact h1.u0 (by unfold rel; omega)
  · rw [m1]; exact h2.off (fun i hi => upd_off (by omega))
  · rw [m1, upd_off (by omega)]; exact h3
  · rw [m1, upd_off (by omega)]; exact ⟨y, LwY.cg h4.2 (fun c hc => e c (by omega))⟩
  · rw [e 1 (by omega)]; exact t1
  · rw [m08]; exact t2
  · rw [e 2 (by omega), m5]; exact t4 k hk
  · rw [e 0 (by omega), m12]; exact h6
  · rw [e 0 (by omega)]; exact k2
  · rw [m03]; exact k3
  · rw [m2]; exact (k4 z).cg (fun c hc => e c (by omega))
  · exact y1.cg (fun c a b => e c (by omega))
  · rw [m1]
    intro j hj
    obtain ⟨b1, b2, b3⟩ := y3 j hj
    exact ⟨b1, fun i hi => (b2 i hi).trans (upd_off (by omega)).symm, fg.symm.trans b3⟩
  · rw [m1]; exact h9.cg fg (e 164 (by omega)) (e 165 (by omega)) (e 166 (by omega))
theorem IYc.img (h : IYc n nc ns nd ls tp B x hk a row σx σm) (y : KS σx' (σm 1) (σm 1 1) ls) (e12 : σx' 0 13 = nI 1) (e0 : ∀ i, i ≠ 13 → σx' 0 i = σx 0 i) (e : ∀ c, 1 ≤ c → ¬ (23 ≤ c ∧ c < 32) → ¬ (46 ≤ c ∧ c < 53) → σx' c = σx c) (m1 : σm' 1 = σm 1) (m2 : ∀ i, i < 823 → σm' 2 i = σm 1 i) (m4 : ∀ c, 4 ≤ c → c ≤ 5 → σm' c = σm c) (m03 : σm' 0 3 = nI 1) (m06 : σm' 0 6 = σm 0 6) (m08 : σm' 0 8 = σm 0 8) (m12 : σm' 0 12 = σm 0 12) (m15 : k15 σm σm') : IY σx' σm' := by
  obtain ⟨h1, h2, h3, h4, ⟨t1, t2, t3, t4⟩, h6, ⟨k1, k2, k3, k4⟩, ⟨y1, y2, y3⟩, h9, h10⟩ := h
  refine ⟨n, nc, ns, nd, ls, tp, B, x, 1, a, row, ?_, ?_, ?_, ?_, ⟨?_, ?_, t3, fun k hk => ?_⟩, ?_, ⟨Nat.le_refl _, e12, m03, fun _ => ⟨n, nc, ns, nd, ls, x, ?_, ?_, ?_, ?_⟩⟩, ⟨?_, y2.mx (m4 4 (by omega) (by omega)) m06, ?_⟩, ?_, m15 h10⟩
  · rw [m1]; exact h1
  · rw [m1]; exact h2
  · rw [m1]; exact h3
  · rw [m1]; exact h4.cg (fun c hc => e c (by omega) (by omega) (by omega))
  · rw [e 1 (by omega) (by omega) (by omega)]; exact t1
  · rw [m08]; exact t2
  · rw [e 2 (by omega) (by omega) (by omega), m4 5 (by omega) (by omega)]; exact t4 k hk
  · rw [e0 14 (by omega), m12]; exact h6
  · exact h1.off (fun i hi => m2 i (by unfold rel at hi; omega))
  · exact h2.off2 (fun i hi => m2 i (by omega))
  · rw [m2 0 (by omega)]; exact h3
  · rw [m2 1 (by omega)]; exact ⟨RS.row y.1 (fun i hi => m2 i (by omega)), y.2⟩
  · exact y1.cg (fun c a b => e c (by omega) (by omega) (by omega))
  · rw [m1]; exact y3
  · rw [m1]; exact h9.cg GEO.refl (e 164 (by omega) (by omega) (by omega)) (e 165 (by omega) (by omega) (by omega)) (e 166 (by omega) (by omega) (by omega))
theorem IYc.bck {n' nc' ns' nd' x' : Nat} {lk : List lLn} (h : IYc n nc ns nd ls tp B x hk a row σx σm) (g1 : BD (σm 2) n' nc' ns' nd') (g2 : LTx (σm 2) lk) (g3 : σm 2 0 = nI x' ∧ x' ≤ 12) (y : YS σx' (σm 2) (σm 2 1) lk) (ym : YM σx' 0 row) (e5 : σx' 165 0 = nI 0) (e4 : σx' 164 3 = nI 0) (e : ∀ c, ¬ (5 ≤ c ∧ c < 14) → ¬ (32 ≤ c ∧ c < 39) → c ≠ 53 → c ≠ 164 → σx' c = σx c) (m1 : ∀ i, i < 823 → σm' 1 i = σm 2 i) (m2 : σm' 2 = σm 2) (m5 : σm' 5 = σm 5) (m03 : σm' 0 3 = σm 0 3) (m06 : σm' 0 6 = nI 0) (m08 : σm' 0 8 = σm 0 8) (m12 : σm' 0 12 = σm 0 12) (m15 : k15 σm σm') : IY σx' σm' := by
  obtain ⟨h1, h2, h3, h4, ⟨t1, t2, t3, t4⟩, h6, ⟨k1, k2, k3, k4⟩, ⟨y1, y2, y3⟩, h9, h10⟩ := h
  refine ⟨n', nc', ns', nd', lk, tp, B, x', hk, 0, row, ?_, ?_, ?_, ?_, ⟨?_, ?_, t3, fun k hk => ?_⟩, ?_, ⟨k1, ?_, ?_, fun z => ?_⟩, ⟨ym, ⟨m06, by omega, fun j i hj => absurd hj (by omega)⟩, fun j hj => absurd hj (by omega)⟩, ⟨e5, Or.inl e4⟩, m15 h10⟩
  · exact g1.off (fun i hi => m1 i (by unfold rel at hi; omega))
  · exact g2.off2 (fun i hi => m1 i (by omega))
  · rw [m1 0 (by omega)]; exact g3
  · rw [m1 1 (by omega)]; exact ⟨RS.row y.1 (fun i hi => m1 i (by omega)), y.2⟩
  · rw [e 1 (by omega) (by omega) (by omega) (by omega)]; exact t1
  · rw [m08]; exact t2
  · rw [e 2 (by omega) (by omega) (by omega) (by omega), m5]; exact t4 k hk
  · rw [e 0 (by omega) (by omega) (by omega) (by omega), m12]; exact h6
  · rw [e 0 (by omega) (by omega) (by omega) (by omega)]; exact k2
  · rw [m03]; exact k3
  · rw [m2]; exact (k4 z).cg (fun c hc => e c (by omega) (by omega) (by omega) (by omega))
theorem IYc.tape {tp' : Nat} {B' : Nat → Nat} (h : IYc n nc ns nd ls tp B x hk a row σx σm) (hT : TPs σx' σm' tp' B') (e : ∀ c, c < 1 ∨ 5 ≤ c → σx' c = σx c) (em : ∀ c, c ≠ 0 → c ≠ 5 → σm' c = σm c) (em0 : ∀ i, i ≠ 0 → i ≠ 8 → σm' 0 i = σm 0 i) : IY σx' σm' := by
  obtain ⟨h1, h2, h3, h4, -, h6, ⟨k1, k2, k3, k4⟩, ⟨y1, y2, y3⟩, h9, h10⟩ := h
  have m1 : σm' 1 = σm 1 := em 1 (by omega) (by omega)
  refine ⟨n, nc, ns, nd, ls, tp', B', x, hk, a, row, ?_, ?_, ?_, ?_, hT, ?_, ⟨k1, ?_, ?_, fun z => ?_⟩, ⟨?_, y2.mx (em 4 (by omega) (by omega)) (em0 6 (by omega) (by omega)), ?_⟩, ?_, ?_⟩
  · rw [m1]; exact h1
  · rw [m1]; exact h2
  · rw [m1]; exact h3
  · rw [m1]; exact h4.cg (fun c hc => e c (by omega))
  · rw [e 0 (by omega), em0 12 (by omega) (by omega)]; exact h6
  · rw [e 0 (by omega)]; exact k2
  · rw [em0 3 (by omega) (by omega)]; exact k3
  · rw [em 2 (by omega) (by omega)]; exact (k4 z).cg (fun c hc => e c (by omega))
  · exact y1.cg (fun c a b => e c (by omega))
  · rw [m1]; exact y3
  · rw [m1]; exact h9.cg GEO.refl (e 164 (by omega)) (e 165 (by omega)) (e 166 (by omega))
  · rw [em0 15 (by omega) (by omega)]; exact h10
theorem TPs.fed {p q r s t : Int32} (h : TPs σx σm tp B) (hx : FC σx tp p q r s t 20 σx') (hm : FD σm tp p q r s t 20 σm') (ht : tp + 20 ≤ 400) : ∃ B', TPs σx' σm' (tp + 20) B' := by
  refine ⟨fun k => if k < tp then B k else (fB (fW p q r s t (k - tp)) ((k - tp) % 4)).toNatClampNeg, hx.1, hm.1, ht, fun k hk => ?_⟩
  by_cases e : k < tp
  · simp only [if_pos e]
    rw [hx.2.1 k e, hm.2.1 k e]
    exact h.2.2.2 k e
  · simp only [if_neg e]
    obtain ⟨b, hb, eb⟩ := and255 (fW p q r s t (k - tp) >>> (nI (24 - 8 * ((k - tp) % 4)) &&& 31))
    have ef : fB (fW p q r s t (k - tp)) ((k - tp) % 4) = nI b := eb
    have e1 := hx.2.2.1 (k - tp) (by omega)
    have e2 := hm.2.2.1 (k - tp) (by omega)
    rw [show tp + (k - tp) = k by omega] at e1 e2
    rw [e1, e2, ef, nI_clamp (by omega)]
    exact ⟨rfl, rfl, hb⟩
theorem TPs.cutS {k : Nat} (h : TPs σx σm tp B) (hk : k ≤ tp) (e3 : σx' 1 3 = nI k) (e2 : σx' 2 = σx 2) (m8 : σm' 0 8 = nI k) (m5 : σm' 5 = σm 5) : TPs σx' σm' k B := ⟨e3, m8, by have := h.2.2.1; omega, fun j hj => by rw [e2, m5]; exact h.2.2.2 j (by omega)⟩
/-- the text on the tape, as both sides read it -/
def txt (tp : Nat) (B : Nat → Nat) : Nat → Int32 := nrm tp (fun k => nI (B k))
theorem TPs.tx (h : TPs σx σm tp B) : (∀ k, k < tp → σx 2 k = txt tp B k) ∧ ∀ k, k < tp → σm 5 k = txt tp B k := by
  have e : ∀ k, k < tp → txt tp B k = nI (B k) := fun k hk => by unfold txt nrm; rw [if_pos hk]
  exact ⟨fun k hk => by rw [e k hk]; exact (h.2.2.2 k hk).1, fun k hk => by rw [e k hk]; exact (h.2.2.2 k hk).2.1⟩
theorem IYc.bad {fl : Int32} (h : IYc n nc ns nd ls tp B x hk a row σx σm) (e13 : σx' 0 14 = fl) (y : YF0 σx σx') (hM : MT σm (σm 1) th (σm 0 6) fl σm') : IY σx' σm' := by
  obtain ⟨h1, h2, h3, h4, ⟨t1, t2, t3, t4⟩, h6, ⟨k1, k2, k3, k4⟩, ⟨y1, y2, y3⟩, h9, h10⟩ := h
  obtain ⟨m1, m2, m4, m5, m00, m03, m06, m08, m12, m15⟩ := hM
  obtain ⟨f0, f1, e⟩ := y
  refine ⟨n, nc, ns, nd, ls, 0, B, x, hk, a, row, ?_, ?_, ?_, ?_, ⟨f1, m08, by omega, fun k hk => absurd hk (by omega)⟩, ?_, ⟨k1, ?_, ?_, fun z => ?_⟩, ⟨?_, y2.mx m4 m06, ?_⟩, ?_, m15 h10⟩
  · rw [m1]; exact h1
  · rw [m1]; exact h2
  · rw [m1]; exact h3
  · rw [m1]; exact h4.cg (fun c hc => e c (by omega))
  · rw [e13, m12]
  · rw [f0 13 (by omega)]; exact k2
  · rw [m03]; exact k3
  · rw [m2]; exact (k4 z).cg (fun c hc => e c (by omega))
  · exact y1.cg (fun c a b => e c (by omega))
  · rw [m1]; exact y3
  · rw [m1]; exact h9.cg GEO.refl (e 164 (by omega)) (e 165 (by omega)) (e 166 (by omega))
theorem IYc.yd {m2 : Nat → Int32} (h : IYc n nc ns nd ls tp B x hk a row σx σm) (hI : YI (σm 1) m2) (hx : x ≠ 12) (y : RYs σx' (upd m2 0 (nI (x + 1)))) (ym : YM σx' 0 row) (e13 : σx' 0 14 = -(nI 1)) (f0 : ∀ i, i ≠ 14 → σx' 0 i = σx 0 i) (f1 : σx' 1 3 = nI 0) (e4 : σx' 164 3 = nI 0) (e : ∀ c, (23 ≤ c ∧ c < 39) ∨ (46 ≤ c ∧ c ≠ 163) → c ≠ 53 → c ≠ 164 → σx' c = σx c) (hM : MT σm (upd m2 0 (nI (x + 1))) th (nI 0) (-(nI 1)) σm') : IY σx' σm' := by
  obtain ⟨h1, h2, h3, h4, ⟨t1, t2, t3, t4⟩, h6, ⟨k1, k2, k3, k4⟩, ⟨y1, y2, y3⟩, h9, h10⟩ := h
  obtain ⟨m1, m2', m4, m5, m00, m03, m06, m08, m12, m15⟩ := hM
  obtain ⟨⟨n', nc', ns', nd', hB'⟩, hs⟩ := hI
  have f1' : ∀ i, i = 1 ∨ i = 2 ∨ 423 ≤ i → upd m2 0 (nI (x + 1)) i = σm 1 i := fun i hi => by rw [upd_off (by omega)]; exact hs i (by omega)
  refine ⟨n', nc', ns', nd', ls, 0, B, x + 1, hk, 0, row, ?_, ?_, ?_, ?_, ⟨f1, m08, by omega, fun k hk => absurd hk (by omega)⟩, ?_, ⟨k1, ?_, ?_, fun z => ?_⟩, ⟨ym, ⟨m06, by omega, fun j i hj => absurd hj (by omega)⟩, fun j hj => absurd hj (by omega)⟩, ⟨?_, Or.inl e4⟩, m15 h10⟩
  · rw [m1]; exact hB'.u0 (by unfold rel; omega)
  · rw [m1]; exact h2.off f1'
  · rw [m1, upd_at]; exact ⟨rfl, by omega⟩
  · rw [m1, f1' 1 (by omega)]; exact ⟨y, LwY.cg h4.2 (fun c hc => e c (by omega) (by omega) (by omega))⟩
  · rw [e13, m12]
  · rw [f0 13 (by omega)]; exact k2
  · rw [m03]; exact k3
  · rw [m2']; exact (k4 z).cg (fun c hc => e c (by omega) (by omega) (by omega))
  · rw [e 165 (by omega) (by omega) (by omega)]; exact h9.1
theorem IYc.lw {f : Nat → Int32} {ls' : List lLn} (h : IYc n nc ns nd ls tp B x hk a row σx σm) (he : pTx (txt tp B) tp (pLine (txt tp B) tp) 12 (sk (txt tp B) tp 0) [] = .inl ls') (y : Lw (fun j => σx' (mgl [(32, 7)] j)) (nI ls'.length) ls') (ym : YM σx' 0 row) (e13 : σx' 0 14 = -(nI 1)) (f0 : ∀ i, i ≠ 14 → σx' 0 i = σx 0 i) (f1 : σx' 1 3 = nI 0) (e : ∀ c, (5 ≤ c ∧ c < 14) ∨ (23 ≤ c ∧ c < 32) ∨ (46 ≤ c ∧ c ≠ 163) → c ≠ 53 → σx' c = σx c) (g1 : f 1 = nI ls'.length) (g2 : f 2 = nI tp) (g3 : ∀ k, k < tp → f (423 + k) = txt tp B k) (g4 : ∀ i, i ≠ 1 → i ≠ 2 → i < 423 → f i = σm 1 i) (hM : MT σm f th (nI 0) (-(nI 1)) σm') : IY σx' σm' := by
  obtain ⟨h1, h2, h3, h4, ⟨t1, t2, t3, t4⟩, h6, ⟨k1, k2, k3, k4⟩, ⟨y1, y2, y3⟩, h9, h10⟩ := h
  obtain ⟨m1, m2, m4, m5, m00, m03, m06, m08, m12, m15⟩ := hM
  have hn := h1.1.2
  have hl12 := y.len
  have et : nrm tp (fun k => f (423 + k)) = txt tp B := by
    funext k
    unfold txt nrm
    by_cases hk : k < tp
    · rw [if_pos hk, if_pos hk]
      have := g3 k hk
      unfold txt nrm at this
      rw [if_pos hk] at this
      exact this
    · rw [if_neg hk, if_neg hk]
  have fg : GEO (σm 1) f n := fun s hs => ⟨g4 _ (by omega) (by omega) (by omega), g4 _ (by omega) (by omega) (by omega)⟩
  refine ⟨n, nc, ns, nd, ls', 0, B, x, hk, 0, row, ?_, ?_, ?_, ?_, ⟨f1, m08, by omega, fun k hk => absurd hk (by omega)⟩, ?_, ⟨k1, ?_, ?_, fun z => ?_⟩, ⟨ym, ⟨m06, by omega, fun j i hj => absurd hj (by omega)⟩, fun j hj => absurd hj (by omega)⟩, ?_, m15 h10⟩
  · rw [m1]
    exact h1.off (fun i hi => g4 i (by unfold rel at hi; omega) (by unfold rel at hi; omega) (by unfold rel at hi; omega))
  · rw [m1]
    by_cases hz : ls'.length = 0
    · have ez : ls' = [] := List.length_eq_zero_iff.mp hz
      refine ⟨0, by omega, Or.inl ⟨by rw [g1, hz]; decide +kernel, rfl⟩, ?_⟩
      unfold pTx
      rw [if_pos (Nat.le_zero.mp (sk_le (Nat.zero_le _))), ez]
    · exact ⟨tp, t3, Or.inr ⟨by rw [g1]; exact nI_le (by omega) (by omega), g2⟩, by rw [et]; exact he⟩
  · rw [m1, g4 0 (by omega) (by omega) (by omega)]; exact h3
  · rw [m1, g1]
    exact ⟨RS.row2 (h4.1.cg (fun c a b => e c (by omega) (by omega))) g4, y⟩
  · rw [e13, m12]
  · rw [f0 13 (by omega)]; exact k2
  · rw [m03]; exact k3
  · rw [m2]; exact (k4 z).cg (fun c hc => e c (by omega) (by omega))
  · rw [m1]; exact h9.cg fg (e 164 (by omega) (by omega)) (e 165 (by omega) (by omega)) (e 166 (by omega) (by omega))
end IN2
