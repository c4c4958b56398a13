/-! BETWEEN THE TWO SIDES -/
/-- streets stand where they stood -/
def GEO (m m' : Nat → Int32) (n : Nat) : Prop := ∀ s, s < n → m' (20 + 9 * s) = m (20 + 9 * s) ∧ m' (21 + 9 * s) = m (21 + 9 * s)
theorem GEO.refl {m : Nat → Int32} {n : Nat} : GEO m m n := fun _ _ => ⟨rfl, rfl⟩
theorem GEO.symm {m m' : Nat → Int32} {n : Nat} (h : GEO m m' n) : GEO m' m n := fun s hs => ⟨(h s hs).1.symm, (h s hs).2.symm⟩
theorem GEO.trans {m m' m2 : Nat → Int32} {n : Nat} (h : GEO m m' n) (h2 : GEO m' m2 n) : GEO m m2 n := fun s hs => ⟨(h2 s hs).1.trans (h s hs).1, (h2 s hs).2.trans (h s hs).2⟩
theorem sWay_geo {m m' : Nat → Int32} {n : Nat} (h : GEO m m' n) {s o : Option Nat} (hs : ∀ k, s = some k → k < n) (ho : ∀ k, o = some k → k < n) : sWay m' s o = sWay m s o := by
  have hX : ∀ o : Option Nat, (∀ k, o = some k → k < n) → sX m' o = sX m o ∧ sY m' o = sY m o := by
    intro o ho
    cases o with
    | none => exact ⟨rfl, rfl⟩
    | some k => exact h k (ho k rfl)
  unfold sWay
  rw [(hX s hs).1, (hX s hs).2, (hX o ho).1, (hX o ho).2]
theorem sUp_cg {D D2 : Nat → Nat → Nat} {E E2 : Nat → Nat} {n : Nat} (hD : ∀ i j, i < n → j < n → D i j = D2 i j) (hE : ∀ i, i < n → E i = E2 i) : ∀ F S k, S < F → k < n → sUp D E n S k = sUp D2 E2 n S k
  | 0, S, k, h, _ => absurd h (by omega)
  | F + 1, S, k, h, hk => by
    have e1 := sUp.eq_def D E n S k
    have e2 := sUp.eq_def D2 E2 n S k
    rw [e1, e2]
    by_cases e : S - 2 ^ k = 0
    · rw [dif_pos e, dif_pos e, hE k hk]
    · rw [dif_neg e, dif_neg e, mnO_congr n (fun j hj _ => by
        have := Nat.two_pow_pos k
        rw [sUp_cg hD hE F (S - 2 ^ k) j (by omega) hj, hD j k hj hk])]
theorem mUp_cg {m m' : Nat → Int32} {n S k : Nat} (h : GEO m m' n) (hk : k < n) : mUp m' n S k = mUp m n S k := by
  unfold mUp
  refine sUp_cg (fun i j hi hj => ?_) (fun i hi => ?_) (S + 1) S k (Nat.lt_succ_self _) hk
  · unfold dN wN
    rw [sWay_geo h (fun k e => by cases e; exact hi) (fun k e => by cases e; exact hj)]
  · unfold zN wN
    rw [sWay_geo h (fun k e => by cases e) (fun k e => by cases e; exact hi)]
theorem mWh_cg {m m' : Nat → Int32} {n S : Nat} (h : GEO m m' n) : mWh m' n S = mWh m n S := by
  unfold mWh sWh
  rw [mnO_congr n (fun k hk _ => by
    have e1 : sUp (dN m') (zN m') n S k = sUp (dN m) (zN m) n S k := mUp_cg h hk
    have e2 : zN m' k = zN m k := by
      unfold zN wN
      rw [sWay_geo h (fun k e => by cases e) (fun j e => by cases e; exact hk)]
    rw [e1, e2])]
theorem YC.cg {σ σ' : mSg} {m m' : Nat → Int32} {n : Nat} (h : YC σ m n) (hg : GEO m m' n) (h4 : σ' 164 = σ 164) (h5 : σ' 165 = σ 165) (h6 : σ' 166 = σ 166) : YC σ' m' n := by
  unfold YC at h ⊢
  rw [h4, h5, h6]
  refine ⟨h.1, ?_⟩
  rcases h.2 with h2 | ⟨h2, h3, h7⟩
  · exact Or.inl h2
  · exact Or.inr ⟨h2, fun T hT => by rw [mWh_cg hg]; exact h3 T hT, fun T k hT hk hb => by rw [mUp_cg hg hk]; exact h7 T k hT hk hb⟩
theorem Lw.cg {σ σ2 : mSg} {v : Int32} {ls : List lLn} (h : Lw σ v ls) (e : ∀ c, c < 7 → σ2 c = σ c) : Lw σ2 v ls := by
  unfold Lw LDr at h ⊢
  rw [e 0 (by omega), e 1 (by omega), e 2 (by omega), e 3 (by omega), e 4 (by omega), e 5 (by omega)]
  exact h
theorem Lw.len {σ : mSg} {v : Int32} {ls : List lLn} (h : Lw σ v ls) : ls.length ≤ 12 := by
  rcases h.2.2.2 with ⟨-, h⟩ | h
  · rw [h]; exact Nat.zero_le _
  · exact h.2.1
theorem RS.row {σ : mSg} {m m' : Nat → Int32} (h : RS σ m) (e : ∀ i, i < 423 → m' i = m i) : RS σ m' := by
  obtain ⟨h1, nx, h2, h3, h4⟩ := h
  exact ⟨fun c k i hr => by rw [e i (by have := (rp_inv hr).2; omega)]; exact h1 c k i hr, nx, h2, h3, fun a w ha hw => by rw [e _ (by omega)]; exact h4 a w ha hw⟩
theorem LTx.off2 {f f' : Nat → Int32} {ls : List lLn} (h : LTx f ls) (h2 : ∀ i, i = 1 ∨ i = 2 ∨ (423 ≤ i ∧ i < 823) → f' i = f i) : LTx f' ls := by
  obtain ⟨n, hn, h3, h4⟩ := h
  have e : nrm n (fun k => f' (423 + k)) = nrm n (fun k => f (423 + k)) := by
    funext k
    unfold nrm
    by_cases hk : k < n
    · rw [if_pos hk, if_pos hk]; exact h2 _ (by omega)
    · rw [if_neg hk, if_neg hk]
  refine ⟨n, hn, ?_, by rw [e]; exact h4⟩
  rw [h2 1 (by omega), h2 2 (by omega)]
  exact h3
/-- what is kept, on both sides -/
def KI (σx : mSg) (mk : Nat → Int32) : Prop := ∃ n nc ns nd lk x, BD mk n nc ns nd ∧ LTx mk lk ∧ (mk 0 = nI x ∧ x ≤ 12) ∧ KS σx mk (mk 1) lk
theorem KS.cg {σ σ' : mSg} {m : Nat → Int32} {v : Int32} {ls : List lLn} (h : KS σ m v ls) (e : ∀ c, (23 ≤ c ∧ c < 32) ∨ (46 ≤ c ∧ c < 53) → σ' c = σ c) : KS σ' m v ls := ⟨RS.congr h.1 (fun c hc => e _ (by omega)), h.2.cg (fun c hc => by
  show σ' (mgl [(46, 7)] c) = σ (mgl [(46, 7)] c)
  rw [mgl_h hc]
  exact e _ (by omega))⟩
theorem KI.cg {σ σ' : mSg} {m : Nat → Int32} (h : KI σ m) (e : ∀ c, (23 ≤ c ∧ c < 32) ∨ (46 ≤ c ∧ c < 53) → σ' c = σ c) : KI σ' m := by
  obtain ⟨n, nc, ns, nd, lk, x, h1, h2, h3, h4⟩ := h
  exact ⟨n, nc, ns, nd, lk, x, h1, h2, h3, h4.cg e⟩
theorem YS.cg {σ σ' : mSg} {m : Nat → Int32} {v : Int32} {ls : List lLn} (h : YS σ m v ls) (e : ∀ c, (5 ≤ c ∧ c < 14) ∨ (32 ≤ c ∧ c < 39) → σ' c = σ c) : YS σ' m v ls := ⟨h.1.cg (fun c a b => e c (by omega)), h.2.cg (fun c hc => by
  show σ' (mgl [(32, 7)] c) = σ (mgl [(32, 7)] c)
  rw [mgl_h hc]
  exact e _ (by omega))⟩
theorem LwY.cg {σ σ' : mSg} {v : Int32} {ls : List lLn} (h : Lw (fun j => σ (mgl [(32, 7)] j)) v ls) (e : ∀ c, 32 ≤ c ∧ c < 39 → σ' c = σ c) : Lw (fun j => σ' (mgl [(32, 7)] j)) v ls := h.cg (fun c hc => by
  show σ' (mgl [(32, 7)] c) = σ (mgl [(32, 7)] c)
  rw [mgl_h hc]
  exact e _ (by omega))
/-- rows that are remembered -/
def RW (m : Nat → Int32) (n a : Nat) (row : Nat → Nat → Int32) : Prop := ∀ j, j < a → (∃ nc ns nd, BD (row j) n nc ns nd) ∧ (∀ i, i < 3 → row j i = m i) ∧ GEO m (row j) n
def TPs (σx σm : mSg) (tp : Nat) (B : Nat → Nat) : Prop := σx 1 3 = nI tp ∧ σm 0 8 = nI tp ∧ tp ≤ 400 ∧ ∀ k, k < tp → σx 2 k = nI (B k) ∧ σm 5 k = nI (B k) ∧ B k < 256
theorem TPs.x {σx σm : mSg} {tp : Nat} {B : Nat → Nat} (h : TPs σx σm tp B) : ∀ k, k < tp → σx 2 k = nI (B k) ∧ B k < 256 := fun k hk => ⟨(h.2.2.2 k hk).1, (h.2.2.2 k hk).2.2⟩
theorem TPs.m {σx σm : mSg} {tp : Nat} {B : Nat → Nat} (h : TPs σx σm tp B) : ∀ k, k < tp → σm 5 k = nI (B k) ∧ B k < 256 := fun k hk => ⟨(h.2.2.2 k hk).2.1, (h.2.2.2 k hk).2.2⟩
def IYc (n nc ns nd : Nat) (ls : List lLn) (tp : Nat) (B : Nat → Nat) (x hk a : Nat) (row : Nat → Nat → Int32) (σx σm : mSg) : Prop :=
  BD (σm 1) n nc ns nd ∧ LTx (σm 1) ls ∧ (σm 1 0 = nI x ∧ x ≤ 12) ∧ YS σx (σm 1) (σm 1 1) ls ∧ TPs σx σm tp B ∧ σx 0 14 = σm 0 12 ∧ (hk ≤ 1 ∧ σx 0 13 = nI hk ∧ σm 0 3 = nI hk ∧ (hk = 1 → KI σx (σm 2))) ∧ (YM σx a row ∧ MM σm a row ∧ RW (σm 1) n a row) ∧ YC σx (σm 1) n ∧ b01 (σm 0 15)
def IY (σx σm : mSg) : Prop := ∃ n nc ns nd ls tp B x hk a row, IYc n nc ns nd ls tp B x hk a row σx σm
section INV
variable {n nc ns nd tp x hk a : Nat} {ls : List lLn} {B : Nat → Nat} {row : Nat → Nat → Int32} {σx σm σx' σm' : mSg} {th : Int32}
theorem IYc.w (h : IYc n nc ns nd ls tp B x hk a row σx σm) : IY σx σm := ⟨n, nc, ns, nd, ls, tp, B, x, hk, a, row, h⟩
/-- a question: nothing is otherwise -/
theorem IYc.q (h : IYc n nc ns nd ls tp B x hk a row σx σm) (e : ∀ c, c < 14 ∨ (23 ≤ c ∧ c < 39) ∨ (46 ≤ c ∧ c < 168) → σx' c = σx c) (hM : MX σm (σm 1) th σm') : IY σx' σm' := by
  obtain ⟨h1, h2, h3, h4, ⟨t1, t2, t3, t4⟩, h6, ⟨k1, k2, k3, k4⟩, ⟨y1, y2, y3⟩, h9, h10⟩ := h
  obtain ⟨m1, m2, m4, m5, m00, m03, m06, m08, m12, m15⟩ := hM
  refine ⟨n, nc, ns, nd, ls, tp, B, x, hk, a, row, ?_, ?_, ?_, ?_, ⟨?_, ?_, t3, fun k hk => ?_⟩, ?_, ⟨k1, ?_, ?_, fun z => ?_⟩, ⟨?_, y2.mx m4 m06, ?_⟩, ?_, m15 h10⟩
  · rw [m1]; exact h1
  · rw [m1]; exact h2
  · rw [m1]; exact h3
  · rw [m1]; exact h4.cg (fun c hc => e c (by omega))
  · rw [e 1 (by omega)]; exact t1
  · rw [m08]; exact t2
  · rw [e 2 (by omega), m5]; exact t4 k hk
  · rw [e 0 (by omega), m12]; exact h6
  · rw [e 0 (by omega)]; exact k2
  · rw [m03]; exact k3
  · rw [m2]; exact (k4 z).cg (fun c hc => e c (by omega))
  · exact y1.cg (fun c a b => e c (by omega))
  · rw [m1]; exact y3
  · rw [m1]; exact h9.cg GEO.refl (e 164 (by omega)) (e 165 (by omega)) (e 166 (by omega))
theorem IYc.s (h : IYc n nc ns nd ls tp B x hk a row σx σm) (hM : MX σm (σm 1) th σm') : IY σx σm' := h.q (fun _ _ => rfl) hM
theorem IYc.dx (h : IYc n nc ns nd ls tp B x hk a row σx σm) (e : DX σx σx') (hM : MX σm (σm 1) th σm') : IY σx' σm' := h.q (fun c hc => e c (by omega)) hM
theorem IYc.fx (h : IYc n nc ns nd ls tp B x hk a row σx σm) (y : YS σx' (σm 1) (σm 1 1) ls) (e : FX σx σx') (hM : MX σm (σm 1) th σm') : IY σx' σm' := by
  obtain ⟨h1, h2, h3, h4, ⟨t1, t2, t3, t4⟩, h6, ⟨k1, k2, k3, k4⟩, ⟨y1, y2, y3⟩, h9, h10⟩ := h
  obtain ⟨m1, m2, m4, m5, m00, m03, m06, m08, m12, m15⟩ := hM
  have e : ∀ c, c < 5 ∨ (23 ≤ c ∧ c < 32) ∨ (46 ≤ c ∧ c < 168) → σx' c = σx c := fun c hc => e c hc
  refine ⟨n, nc, ns, nd, ls, tp, B, x, hk, a, row, ?_, ?_, ?_, ?_, ⟨?_, ?_, t3, fun k hk => ?_⟩, ?_, ⟨k1, ?_, ?_, fun z => ?_⟩, ⟨?_, y2.mx m4 m06, ?_⟩, ?_, m15 h10⟩
  · rw [m1]; exact h1
  · rw [m1]; exact h2
  · rw [m1]; exact h3
  · rw [m1]; exact y
  · rw [e 1 (by omega)]; exact t1
  · rw [m08]; exact t2
  · rw [e 2 (by omega), m5]; exact t4 k hk
  · rw [e 0 (by omega), m12]; exact h6
  · rw [e 0 (by omega)]; exact k2
  · rw [m03]; exact k3
  · rw [m2]; exact (k4 z).cg (fun c hc => e c (by omega))
  · exact y1.cg (fun c a b => e c (by omega))
  · rw [m1]; exact y3
  · rw [m1]; exact h9.cg GEO.refl (e 164 (by omega)) (e 165 (by omega)) (e 166 (by omega))
theorem IYc.rd (h : IYc n nc ns nd ls tp B x hk a row σx σm) (y : YC σx' (σm 1) n) (e : ∀ c, c ≠ 164 → c ≠ 165 → c ≠ 166 → c ≠ 167 → σx' c = σx c) (hM : MX σm (σm 1) th σm') : IY σx' σm' := by
  obtain ⟨h1, h2, h3, h4, ⟨t1, t2, t3, t4⟩, h6, ⟨k1, k2, k3, k4⟩, ⟨y1, y2, y3⟩, h9, h10⟩ := h
  obtain ⟨m1, m2, m4, m5, m00, m03, m06, m08, m12, m15⟩ := hM
  have e : ∀ c, c < 164 → σx' c = σx c := fun c hc => e c (by omega) (by omega) (by omega) (by omega)
  refine ⟨n, nc, ns, nd, ls, tp, B, x, hk, a, row, ?_, ?_, ?_, ?_, ⟨?_, ?_, t3, fun k hk => ?_⟩, ?_, ⟨k1, ?_, ?_, fun z => ?_⟩, ⟨?_, y2.mx m4 m06, ?_⟩, ?_, m15 h10⟩
  · rw [m1]; exact h1
  · rw [m1]; exact h2
  · rw [m1]; exact h3
  · rw [m1]; exact h4.cg (fun c hc => e c (by omega))
  · rw [e 1 (by omega)]; exact t1
  · rw [m08]; exact t2
  · rw [e 2 (by omega), m5]; exact t4 k hk
  · rw [e 0 (by omega), m12]; exact h6
  · rw [e 0 (by omega)]; exact k2
  · rw [m03]; exact k3
  · rw [m2]; exact (k4 z).cg (fun c hc => e c (by omega))
  · exact y1.cg (fun c a b => e c (by omega))
  · rw [m1]; exact y3
  · rw [m1]; exact y
/-- the tape is used up -/
theorem IYc.t0 (h : IYc n nc ns nd ls tp B x hk a row σx σm) (y : YC σx' (σm 1) n) (e3 : σx' 1 3 = nI 0) (e : ∀ c, c < 1 ∨ (5 ≤ c ∧ c < 14) ∨ (23 ≤ c ∧ c < 39) ∨ (46 ≤ c ∧ c < 163) → σx' c = σx c) (hM : MR σm th σm') : IY σx' σm' := by
  obtain ⟨h1, h2, h3, h4, ⟨t1, t2, t3, t4⟩, h6, ⟨k1, k2, k3, k4⟩, ⟨y1, y2, y3⟩, h9, h10⟩ := h
  obtain ⟨m1, m2, m4, m5, m00, m03, m06, m08, m12, m15⟩ := hM
  refine ⟨n, nc, ns, nd, ls, 0, B, x, hk, a, row, ?_, ?_, ?_, ?_, ⟨e3, m08, by omega, fun k hk => absurd hk (by omega)⟩, ?_, ⟨k1, ?_, ?_, fun z => ?_⟩, ⟨?_, y2.mx m4 m06, ?_⟩, ?_, m15 h10⟩
  · rw [m1]; exact h1
  · rw [m1]; exact h2
  · rw [m1]; exact h3
  · rw [m1]; exact h4.cg (fun c hc => e c (by omega))
  · rw [e 0 (by omega), m12]; exact h6
  · rw [e 0 (by omega)]; exact k2
  · rw [m03]; exact k3
  · rw [m2]; exact (k4 z).cg (fun c hc => e c (by omega))
  · exact y1.cg (fun c a b => e c (by omega))
  · rw [m1]; exact y3
  · rw [m1]; exact y
theorem IYc.gx (h : IYc n nc ns nd ls tp B x hk a row σx σm) (g : GX σx σx') (hM : MR σm th σm') : IY σx' σm' := h.t0 (h.2.2.2.2.2.2.2.2.1.cg GEO.refl (g.2 164 (by omega) (by omega)) (g.2 165 (by omega) (by omega)) (g.2 166 (by omega) (by omega))) g.1 (fun c hc => g.2 c (by omega) (by omega)) hM
/-- an act -/
theorem RW.act {m f : Nat → Int32} (h : RW m n a row) (hB : BD m n nc ns nd) (h3 : ∀ i, i < 3 → f i = m i) (hg : GEO m f n) : RW f n (min 12 (a + 1)) (psh m row) := by
  intro j hj
  cases j with
  | zero => exact ⟨⟨nc, ns, nd, hB⟩, fun i hi => (h3 i hi).symm, hg.symm⟩
  | succ j =>
    obtain ⟨a1, a2, a3⟩ := h j (by omega)
    exact ⟨a1, fun i hi => (a2 i hi).trans (h3 i hi).symm, hg.symm.trans a3⟩
theorem IYc.act {f : Nat → Int32} {nc' ns' nd' : Nat} (h : IYc n nc ns nd ls tp B x hk a row σx σm) (hf : BD f n nc' ns' nd') (f3 : ∀ i, i < 3 → f i = σm 1 i) (fh : ∀ i, 423 ≤ i → f i = σm 1 i) (hg : GEO (σm 1) f n) (y : RYs σx' f) (yl : Lw (fun j => σx' (mgl [(32, 7)] j)) (σm 1 1) ls) (ym : YM σx' (min 12 (a + 1)) (psh (σm 1) row)) (e : ∀ c, c < 5 ∨ (23 ≤ c ∧ c < 32) ∨ (46 ≤ c ∧ c < 53) ∨ 163 ≤ c → σx' c = σx c) (hM : MA σm f th (min 12 (a + 1)) (psh (σm 1) row) σm') : IY σx' σm' := by
  obtain ⟨h1, h2, h3, h4, ⟨t1, t2, t3, t4⟩, h6, ⟨k1, k2, k3, k4⟩, ⟨y1, y2, y3⟩, h9, h10⟩ := h
  obtain ⟨m1, mm, m2, m5, m00, m03, m08, m12, m15⟩ := hM
  refine ⟨n, nc', ns', nd', ls, tp, B, x, hk, _, _, ?_, ?_, ?_, ?_, ⟨?_, ?_, t3, fun k hk => ?_⟩, ?_, ⟨k1, ?_, ?_, fun z => ?_⟩, ⟨ym, mm, ?_⟩, ?_, m15 h10⟩
  · rw [m1]; exact hf
  · rw [m1]; exact h2.off (fun i hi => by
      rcases hi with rfl | rfl | hi
      · exact f3 1 (by omega)
      · exact f3 2 (by omega)
      · exact fh i hi)
  · rw [m1, f3 0 (by omega)]; exact h3
  · rw [m1, f3 1 (by omega)]; exact ⟨y, yl⟩
  · rw [e 1 (by omega)]; exact t1
  · rw [m08]; exact t2
  · rw [e 2 (by omega), m5]; exact t4 k hk
  · rw [e 0 (by omega), m12]; exact h6
  · rw [e 0 (by omega)]; exact k2
  · rw [m03]; exact k3
  · rw [m2]; exact (k4 z).cg (fun c hc => e c (by omega))
  · rw [m1]; exact y3.act h1 f3 hg
  · rw [m1]; exact h9.cg hg (e 164 (by omega)) (e 165 (by omega)) (e 166 (by omega))
theorem IYc.ya {f : Nat → Int32} {nc' ns' nd' : Nat} (h : IYc n nc ns nd ls tp B x hk a row σx σm) (hf : BD f n nc' ns' nd') (hk2 : ∀ i, (i < 3 ∨ 423 ≤ i ∨ (20 ≤ i ∧ i < 83 ∧ (i - 20) % 9 < 2)) → f i = σm 1 i) (y : YA σx f (min 12 (a + 1)) (psh (σm 1) row) σx') (hM : MA σm f th (min 12 (a + 1)) (psh (σm 1) row) σm') : IY σx' σm' := by
  have hn := h.1.1.2
  have e : ∀ c, c < 5 ∨ (14 ≤ c ∧ c < 53) ∨ 163 ≤ c → σx' c = σx c := y.2.2
  exact h.act hf (fun i hi => hk2 i (Or.inl hi)) (fun i hi => hk2 i (Or.inr (Or.inl hi))) (fun s hs => ⟨hk2 _ (by omega), hk2 _ (by omega)⟩) y.1 (LwY.cg h.2.2.2.1.2 (fun c hc => e c (by omega))) y.2.1 (fun c hc => e c (by omega)) hM
theorem IYc.ad {f : Nat → Int32} (h : IYc n nc ns nd ls tp B x hk a row σx σm) (hf : BD f n nc ns nd) (hk2 : KD (σm 1) f) (y : YS σx' f (σm 1 1) ls) (ym : YM σx' (min 12 (a + 1)) (psh (σm 1) row)) (e : AD σx σx') (hM : MA σm f th (min 12 (a + 1)) (psh (σm 1) row) σm') : IY σx' σm' := by
  have hn := h.1.1.2
  exact h.act hf (fun i hi => hk2 i (by unfold kdp; omega)) (fun i hi => hk2 i (by unfold kdp; omega)) (fun s hs => ⟨hk2 _ (by unfold kdp; omega), hk2 _ (by unfold kdp; omega)⟩) y.1 y.2 ym (fun c hc => e c (by omega)) hM
end INV
