/-! THE CLASS: acts -/
def YM (σ : mSg) (a : Nat) (row : Nat → Nat → Int32) : Prop := ME (fun j => σ (53 + j)) a row
def AX (σ σ' : mSg) : Prop := ∀ c, c < 5 ∨ (14 ≤ c ∧ c < 53) ∨ 163 ≤ c → σ' c = σ c
def YA (σ : mSg) (m : Nat → Int32) (a : Nat) (row : Nat → Nat → Int32) (σ' : mSg) : Prop := RYs σ' m ∧ YM σ' a row ∧ AX σ σ'
theorem mglK1 : ∀ c, c < 110 → mgl [(53, 110), (5, 9)] c = 53 + c := by decide +kernel
theorem mglK2 : ∀ c, c < 9 → mgl [(53, 110), (5, 9)] (110 + c) = 5 + c := by decide +kernel
theorem BD.dl {m : Nat → Int32} {n nc ns nd k : Nat} (hB : BD m n nc ns nd) (hk : k < nd) : m (93 + 5 * k) = nI (dLo m k) ∧ m (93 + 5 * k + 1) = nI (dHi m k) ∧ 1 ≤ dLo m k ∧ dLo m k ≤ dHi m k ∧ dHi m k ≤ 6 := by
  obtain ⟨lo, hi, q, p, c1, c2, c3, c4, c5, c6, c7, c8, c9, c10, c11⟩ := hB.2.2.2.2.2.2.2.1 k hk
  have el : dLo m k = lo := by unfold dLo; rw [c7, nI_clamp (by omega)]
  have eh : dHi m k = hi := by unfold dHi; rw [c8, nI_clamp (by omega)]
  rw [el, eh]
  exact ⟨c7, c8, c1, c2, c3⟩
section CAC
variable {d : Nat} {σ σ2 σ3 W : mSg} {m m' : Nat → Int32} {v : Int32} {ls : List lLn} {Q : mPst} {n nc ns nd a : Nat} {row : Nat → Nat → Int32}
theorem YM.cg (h : YM σ a row) (hk : ∀ c, 53 ≤ c → c < 163 → W c = σ c) : YM W a row := ME.congr h (fun c hc => hk _ (by omega) (by omega))
theorem YM.me (h : YM σ a row) : ME (fun j => σ (mgl [(53, 110), (5, 9)] j)) a row := ME.congr h (fun c hc => congrArg σ (mglK1 c hc))
theorem RYs.mn (h : RYs σ m) : RS (fun c => σ (mgl [(53, 110), (5, 9)] (110 + c))) m := RS.congr h (fun c hc => by
  show σ (mgl [(53, 110), (5, 9)] (110 + c)) = σ (mgl [(5, 9)] c)
  rw [mglK2 c hc, mgl9 hc])
theorem RYs.put0 {k i : Nat} (h : RYs σ m) (hr : rp 0 k = some i) (v : Int32) : RYs (mput σ 5 k v) (upd m i v) := by
  refine RS.congr (RS.put (σ := fun j => σ (mgl [(5, 9)] j)) h hr v) (fun c hc => ?_)
  by_cases h0 : c = 0
  · subst h0; rfl
  · rw [mput_ne h0]
    refine mput_ne ?_
    rw [mgl9 hc]
    omega
theorem kb (h1 : ME σ2 a row) (h2 : ∀ c, 110 ≤ c → σ2 c = σ (mgl [(53, 110), (5, 9)] c)) (hR : RYs σ m) : RYs (mback [(53, 110), (5, 9)] σ σ2) m ∧ YM (mback [(53, 110), (5, 9)] σ σ2) a row ∧ AX σ (mback [(53, 110), (5, 9)] σ σ2) := by
  have f : ∀ c, c < 53 ∨ 163 ≤ c → mback [(53, 110), (5, 9)] σ σ2 c = σ c := by
    intro c hc
    by_cases e : 5 ≤ c ∧ c < 14
    · unfold mback
      rw [mlo_skip (by omega), mlo_in e]
      show σ2 (c - 5 + 110) = σ c
      rw [h2 _ (by omega), Nat.add_comm, mglK2 _ (by omega)]
      congr 1; omega
    · exact mback_out2 (by omega) (by omega)
  refine ⟨hR.cg (fun c h1 h2 => f c (by omega)), ME.congr h1 (fun c hc => ?_), fun c hc => f c (by omega)⟩
  show mback [(53, 110), (5, 9)] σ σ2 (53 + c) = σ2 c
  unfold mback
  rw [mlo_hd (by omega), Nat.add_sub_cancel_left]
theorem YA.of (y : YA σ m a row W) (r : RS σ3 m') : YA σ m' a row (mback [(5, 9)] W σ3) := ⟨RYs.of r, y.2.1.cg (fun c h1 h2 => mback_out (by omega)), fun c hc => (mback_out (by omega)).trans (y.2.2 c hc)⟩
theorem YA.sm (y : YA σ m a row W) : YA σ m a row (mback [(5, 9)] W (fun j => W (mgl [(5, 9)] j))) := by rw [same1]; exact y
theorem YA.put0 {k i : Nat} (y : YA σ m a row W) (hr : rp 0 k = some i) (v : Int32) : YA σ (upd m i v) a row (mput W 5 k v) := ⟨y.1.put0 hr v, y.2.1.cg (fun c h1 h2 => mput_ne (by omega)), fun c hc => (mput_ne (by omega)).trans (y.2.2 c hc)⟩
set_option maxRecDepth 100000 in
theorem c_ytip {p : Int32} (hB : BD m n nc ns nd) (hR : RYs σ m) (hM : YM σ a row) (q1 : ∀ s w, s < n → p = nI s → w ≤ 99 → m (22 + 9 * s) = nI w → 1 ≤ w → ∀ σ', YA σ (sFe m s (nI 1) 6) (min 12 (a + 1)) (psh m row) σ' → Q (.inl (some (.int (sFe m s (nI 1) 6 (22 + 9 * s))))) sh_9 σ') (q0 : (¬ ∃ s, s < n ∧ p = nI s) → Q (.inr 2) sh_9 σ) (q2 : ∀ s, s < n → p = nI s → m (22 + 9 * s) = nI 0 → Q (.inr 1) sh_9 σ) : mD (d + 4) 14 [.ref 0, .int p] sh_9 σ Q := by
  have hn := hB.1.2
  have hb := hB.2.2.2.2.2.2.2.2.2.2.1
  refine ⟨rfl, fun X hX => ?_⟩
  refine hX _ _ _ _ _ _ _ ?_
  refine c_needStreet hB hR (fun s hs e => ?_) q0
  subst e
  obtain ⟨-, -, ⟨w, hw, ew⟩, -⟩ := hB.2.2.2.2.1 s hs
  have go : 1 ≤ w → ∀ W, W = σ → X 27 [some (.ref 0), some (.int (nI s))] [] sh_9 W 1 6 := by
    intro w1 W hW
    subst hW
    refine hX _ _ _ _ _ _ _ ?_
    refine c_keep hb hM.me hR.mn (fun σ2 k1 k2 => ?_)
    have y := kb k1 k2 hR
    refine c_fetch (by omega) (qs rfl y.1) (fun σ3 r3 => ?_)
    have y2 := YA.of y r3
    refine c_waitsOf (by omega) (qs rfl y2.1) ?_
    exact q1 s w hs rfl hw ew w1 _ y2.sm
  refine c_waitsOf (by omega) (qs rfl hR) ?_
  refine b_ge ew (b := 1) rfl (by omega) (by omega) (fun h => go h _ (qn rfl)) (fun h => ?_)
  have w0 : w = 0 := by omega
  subst w0
  exact qw (Q := Q) (qn rfl) (q2 s hs rfl ew)
set_option maxRecDepth 100000 in
theorem c_ydrop {p : Int32} (hB : BD m n nc ns nd) (hR : RYs σ m) (hM : YM σ a row) (q1 : ∀ k, k < nd → p = nI k → sOpen m k → ∀ σ', YA σ (upd m (93 + 5 * k + 4) (nI 0)) (min 12 (a + 1)) (psh m row) σ' → Q (.inl none) sh_9 σ') (q0 : (¬ ∃ s, s < nd ∧ p = nI s) → Q (.inr 2) sh_9 σ) (q2 : ∀ k, k < nd → p = nI k → ¬ sOpen m k → Q (.inr 1) sh_9 σ) : mD (d + 4) 17 [.ref 0, .int p] sh_9 σ Q := by
  have hn := hB.2.2.2.1.2
  have hb := hB.2.2.2.2.2.2.2.2.2.2.1
  refine ⟨rfl, fun X hX => ?_⟩
  refine hX _ _ _ _ _ _ _ ?_
  refine c_needContract hB hR (fun s hs e => ?_) q0
  subst e
  have go : sOpen m s → ∀ W, W = σ → X 27 [some (.ref 0), some (.int (nI s))] [] sh_9 W 1 6 := by
    intro w1 W hW
    subst hW
    refine hX _ _ _ _ _ _ _ ?_
    refine c_keep hb hM.me hR.mn (fun σ2 k1 k2 => ?_)
    have y := kb k1 k2 hR
    refine c_close (by omega) (qs rfl y.1) (fun σ3 r3 => ?_)
    exact q1 s hs rfl w1 _ (YA.of y r3)
  refine c_isOpen (by omega) (qs rfl hR) (fun h => ?_) (fun h => ?_)
  · refine ⟨fun _ => go h _ (qn rfl), fun z => absurd z (by decide +kernel)⟩
  · refine ⟨fun z => absurd rfl z, fun _ => ?_⟩
    exact qw (Q := Q) (qn rfl) (q2 s hs rfl h)
set_option maxRecDepth 100000 in
theorem c_yfill {p : Int32} (hB : BD m n nc ns nd) (hR : RYs σ m) (hM : YM σ a row) (q1 : ∀ k, k < nd → p = nI k → sCan m k (dLo m k) (dHi m k) → ∀ σ', YA σ (sSt m k (dLo m k) (dHi m k) (nI 2)) (min 12 (a + 1)) (psh m row) σ' → Q (.inl (some (.int (sSt m k (dLo m k) (dHi m k) (nI 2) 9)))) sh_9 σ') (q0 : (¬ ∃ s, s < nd ∧ p = nI s) → Q (.inr 2) sh_9 σ) (q2 : ∀ k, k < nd → p = nI k → ¬ sCan m k (dLo m k) (dHi m k) → Q (.inr 1) sh_9 σ) : mD (d + 5) 21 [.ref 0, .int p] sh_9 σ Q := by
  have hn := hB.2.2.2.1.2
  have hb := hB.2.2.2.2.2.2.2.2.2.2.1
  refine ⟨rfl, fun X hX => ?_⟩
  refine hX _ _ _ _ _ _ _ ?_
  refine c_needContract hB hR (fun s hs e => ?_) q0
  subst e
  obtain ⟨d1, d2, d3, d4, d5⟩ := hB.dl hs
  have go : sCan m s (dLo m s) (dHi m s) → ∀ W, W = σ → X 27 [some (.ref 0), some (.int (nI s))] [] sh_9 W 1 6 := by
    intro w1 W hW
    subst hW
    refine hX _ _ _ _ _ _ _ ?_
    refine c_keep hb hM.me hR.mn (fun σ2 k1 k2 => ?_)
    have y := kb k1 k2 hR
    refine c_settle (by omega) d1 d2 d3 d5 d4 (qs rfl y.1) (fun σ3 r3 => ?_)
    have y2 := YA.of y r3
    exact qi (y2.1.g rf0.2.2.2.2.2.2.2.1).symm (q1 s hs rfl w1 _ y2)
  refine c_canSettle (by omega) d1 d2 d3 d5 (by omega) (qs rfl hR) (fun h => ?_) (fun h => ?_)
  · refine ⟨fun _ => go h _ (qn rfl), fun z => absurd z (by decide +kernel)⟩
  · refine ⟨fun z => absurd rfl z, fun _ => ?_⟩
    exact qw (Q := Q) (qn rfl) (q2 s hs rfl h)
set_option maxRecDepth 100000 in
theorem c_ylay {p g x : Int32} (hB : BD m n nc ns nd) (hR : RYs σ m) (hM : YM σ a row) (q1 : ∀ s k q, s < n → p = nI s → 1 ≤ k → k ≤ 6 → g = nI k → q ≤ 9 → x = nI q → ∀ σ', YA σ (upd m (22 + 9 * s + k) (nI q)) (min 12 (a + 1)) (psh m row) σ' → Q (.inl (some (.int (m (22 + 9 * s + k))))) sh_9 σ') (q0 : ¬ ((∃ s, s < n ∧ p = nI s) ∧ ∃ k, 1 ≤ k ∧ k ≤ 6 ∧ g = nI k) → Q (.inr 2) sh_9 σ) (q2 : ((∃ s, s < n ∧ p = nI s) ∧ ∃ k, 1 ≤ k ∧ k ≤ 6 ∧ g = nI k) → (¬ ∃ k, k < 10 ∧ x = nI k) → Q (.inr 0) sh_9 σ) : mD (d + 4) 19 [.ref 0, .int p, .int g, .int x] sh_9 σ Q := by
  have hn := hB.1.2
  have hb := hB.2.2.2.2.2.2.2.2.2.2.1
  refine ⟨rfl, fun X hX => ?_⟩
  refine hX _ _ _ _ _ _ _ ?_
  refine c_needStreet hB hR (fun s hs e => ?_) (fun h => q0 (fun z => h z.1))
  refine c_needGrain (fun k h1 h2 e2 => ?_) (fun h => q0 (fun z => h z.2))
  have q3 := q2 ⟨⟨s, hs, e⟩, k, h1, h2, e2⟩
  subst e; subst e2
  have bad : ∀ h : (x < nI 0 ∨ nI 9 < x), ¬ ∃ k, k < 10 ∧ x = nI k := fun h ⟨k, hk, e⟩ => rng2_no (a := 0) (b := 9) (by omega) (by omega) h ⟨k, by omega, by omega, e⟩
  rcases rng2 (p := x) (a := 0) (b := 9) (by omega) (by omega) with h | h | ⟨q, q9, q4, rfl⟩
  · refine ⟨fun _ => ?_, fun z => absurd h z⟩
    refine hX _ _ _ _ _ _ _ ?_
    exact q3 (bad (Or.inl h))
  · refine ⟨fun _ => ?_, fun _ => ⟨fun z => absurd h (Int32.not_lt.mpr z), fun _ => ?_⟩⟩
    · refine hX _ _ _ _ _ _ _ ?_
      exact q3 (bad (Or.inr h))
    · refine hX _ _ _ _ _ _ _ ?_
      exact q3 (bad (Or.inr h))
  · refine ⟨fun z => absurd z (nI_pos (by omega)), fun _ => ⟨fun _ => ?_, fun z => absurd (nI_le q4 (by omega)) z⟩⟩
    refine hX _ _ _ _ _ _ _ ?_
    refine c_keep hb hM.me hR.mn (fun σ2 k1 k2 => ?_)
    have y := kb k1 k2 hR
    refine c_mixOf (by omega) h1 (by omega) (qs rfl y.1) ?_
    have y2 := YA.sm y
    refine c_setMix (by omega) h1 (by omega) (qs rfl y2.1) (fun σ3 r3 => ?_)
    exact q1 s k q hs rfl h1 h2 rfl q4 rfl _ (YA.of y2 r3)
set_option maxRecDepth 100000 in
theorem c_ydouse (hB : BD m n nc ns nd) (hR : RYs σ m) (hM : YM σ a row) (q1 : ∀ σ', YA σ (upd m 11 (nI 0)) (min 12 (a + 1)) (psh m row) σ' → Q (.inl (some (.int (m 11)))) sh_9 σ') : mD (d + 4) 20 [.ref 0] sh_9 σ Q := by
  have hb := hB.2.2.2.2.2.2.2.2.2.2.1
  refine ⟨rfl, fun X hX => ?_⟩
  refine hX _ _ _ _ _ _ _ ?_
  refine c_keep hb hM.me hR.mn (fun σ2 k1 k2 => ?_)
  have y := kb k1 k2 hR
  have e := y.1.g rf0.2.2.2.2.2.2.2.2.2.1
  have y2 := YA.put0 y rf0.2.2.2.2.2.2.2.2.2.1 (nI 0)
  refine ⟨Or.inl rfl, ?_⟩
  refine ⟨?_, qi e.symm (q1 _ y2)⟩
  show mback [(53, 110), (5, 9)] σ σ2 5 16 = 0 ∨ mback [(53, 110), (5, 9)] σ σ2 5 16 = 1
  rw [e]
  exact hb
set_option maxRecDepth 100000 in
theorem c_ybuy {p : Int32} (hB : BD m n nc ns nd) (hR : RYs σ m) (hM : YM σ a row) (q1 : ∀ g t, 2 ≤ g → g ≤ 6 → p = nI g → ns < 4 → 5 ≤ t → t ≤ 9999 → m 9 = nI t → ∀ σ', YA σ (yaM (upd m 9 (m 9 - nI 5)) ns (nI g)) (min 12 (a + 1)) (psh m row) σ' → Q (.inl (some (.int (nI ns)))) sh_9 σ') (q0 : (¬ ∃ s, 2 ≤ s ∧ s ≤ 6 ∧ p = nI s) → Q (.inr 0) sh_9 σ) (q2 : (∃ s, 2 ≤ s ∧ s ≤ 6 ∧ p = nI s) → ¬ (ns < 4 ∧ nI 5 ≤ m 9) → Q (.inr 1) sh_9 σ) : mD (d + 4) 15 [.ref 0, .int p] sh_9 σ Q := by
  have hn := hB.2.2.1.2
  have hb := hB.2.2.2.2.2.2.2.2.2.2.1
  obtain ⟨t, ht, et⟩ := hB.2.2.2.2.2.2.2.2.2.1
  have e5 : σ 5 9 = nI ns := (hR.g rf0.2.2.1).trans hB.2.2.1.1
  have e9 : σ 5 14 = nI t := (hR.g rf0.2.2.2.2.2.2.2.1).trans et
  refine ⟨rfl, fun X hX => ?_⟩
  have bad : (p < nI 2 ∨ nI 6 < p) → X 11 [none, none] [] sh_9 σ 0 0 := by
    intro h
    refine hX _ _ _ _ _ _ _ ?_
    exact q0 (rng2_no (by omega) (by omega) h)
  refine hX _ _ _ _ _ _ _ ?_
  rcases rng2 (p := p) (a := 2) (b := 6) (by omega) (by omega) with h | h | ⟨s, h1, h2, rfl⟩
  · exact ⟨fun _ => bad (Or.inl h), fun z => absurd h z⟩
  · exact ⟨fun _ => bad (Or.inr h), fun _ => ⟨fun z => absurd h (Int32.not_lt.mpr z), fun _ => bad (Or.inr h)⟩⟩
  · refine ⟨fun z => absurd z (nI_nlt h1 (by omega)), fun _ => ⟨fun _ => ?_, fun z => absurd (nI_le h2 (by omega)) z⟩⟩
    have bad2 : ¬ (ns < 4 ∧ nI 5 ≤ m 9) → X 43 [none, none] [] sh_9 σ 0 0 := by
      intro h
      refine hX _ _ _ _ _ _ _ ?_
      exact q2 ⟨s, h1, h2, rfl⟩ h
    refine hX _ _ _ _ _ _ _ ?_
    refine b_ge e5 (b := 4) rfl (by omega) (by omega) (fun h => bad2 (fun z => by omega)) (fun h4 => ?_)
    refine b_ge e9 (b := 5) rfl (by omega) (by omega) (fun h5 => ?_) (fun h => bad2 (fun z => ?_))
    · refine hX _ _ _ _ _ _ _ ?_
      refine c_keep hb hM.me hR.mn (fun σ2 k1 k2 => ?_)
      have y := kb k1 k2 hR
      have e := y.1.g rf0.2.2.2.2.2.2.2.1
      have y2 := YA.put0 y rf0.2.2.2.2.2.2.2.1 (mback [(53, 110), (5, 9)] σ σ2 5 14 - nI 5)
      refine c_addSieve h4 (m := upd m 9 (mback [(53, 110), (5, 9)] σ σ2 5 14 - nI 5)) (by rw [upd_off (by omega)]; exact hB.2.2.1.1) (qs rfl y2.1) (fun σ3 r3 => ?_)
      have y3 := YA.of y2 r3
      rw [show upd m 9 (mback [(53, 110), (5, 9)] σ σ2 5 14 - nI 5) = upd m 9 (m 9 - nI 5) by rw [e]] at y3
      exact q1 s t h1 h2 rfl h4 h5 ht et _ y3
    · rw [et, nI_leI (by omega) (by omega)] at z
      omega
set_option maxRecDepth 100000 in
theorem c_yhire {p g : Int32} (hB : BD m n nc ns nd) (hR : RYs σ m) (hM : YM σ a row) (q1 : ∀ x y, 1 ≤ x → x ≤ 9 → p = nI x → 1 ≤ y → y ≤ 99 → g = nI y → nc < 3 → ∀ σ', YA σ (yaC m nc (nI x) (nI y)) (min 12 (a + 1)) (psh m row) σ' → Q (.inl (some (.int (nI nc)))) sh_9 σ') (q0 : ¬ ((∃ s, 1 ≤ s ∧ s ≤ 9 ∧ p = nI s) ∧ ∃ k, 1 ≤ k ∧ k ≤ 99 ∧ g = nI k) → Q (.inr 0) sh_9 σ) (q2 : ((∃ s, 1 ≤ s ∧ s ≤ 9 ∧ p = nI s) ∧ ∃ k, 1 ≤ k ∧ k ≤ 99 ∧ g = nI k) → nc = 3 → Q (.inr 1) sh_9 σ) : mD (d + 4) 18 [.ref 0, .int p, .int g] sh_9 σ Q := by
  have hn := hB.2.1.2
  have hb := hB.2.2.2.2.2.2.2.2.2.2.1
  have e5 : σ 5 8 = nI nc := (hR.g rf0.2.1).trans hB.2.1.1
  refine ⟨rfl, fun X hX => ?_⟩
  have bad : ¬ ((∃ s, 1 ≤ s ∧ s ≤ 9 ∧ p = nI s) ∧ ∃ k, 1 ≤ k ∧ k ≤ 99 ∧ g = nI k) → X 22 [none, none, none] [] sh_9 σ 0 0 := by
    intro h
    refine hX _ _ _ _ _ _ _ ?_
    exact q0 h
  refine hX _ _ _ _ _ _ _ ?_
  rcases rng2 (p := p) (a := 1) (b := 9) (by omega) (by omega) with h | h | ⟨x, h1, h2, rfl⟩
  · exact ⟨fun _ => bad (fun z => rng2_no (by omega) (by omega) (Or.inl h) z.1), fun z => absurd h z⟩
  · exact ⟨fun _ => bad (fun z => rng2_no (by omega) (by omega) (Or.inr h) z.1), fun _ => ⟨fun _ => bad (fun z => rng2_no (by omega) (by omega) (Or.inr h) z.1), fun z => absurd h z⟩⟩
  · refine ⟨fun z => absurd z (nI_nlt h1 (by omega)), fun _ => ⟨fun z => absurd z (nI_nlt h2 (by omega)), fun _ => ?_⟩⟩
    rcases rng2 (p := g) (a := 1) (b := 99) (by omega) (by omega) with h | h | ⟨y, h3, h4, rfl⟩
    · exact ⟨fun _ => bad (fun z => rng2_no (by omega) (by omega) (Or.inl h) z.2), fun z => absurd h z⟩
    · exact ⟨fun _ => bad (fun z => rng2_no (by omega) (by omega) (Or.inr h) z.2), fun _ => ⟨fun z => absurd h (Int32.not_lt.mpr z), fun _ => bad (fun z => rng2_no (by omega) (by omega) (Or.inr h) z.2)⟩⟩
    · refine ⟨fun z => absurd z (nI_nlt h3 (by omega)), fun _ => ⟨fun _ => ?_, fun z => absurd (nI_le h4 (by omega)) z⟩⟩
      refine hX _ _ _ _ _ _ _ ?_
      refine b_lt e5 (b := 3) rfl (by omega) (by omega) (fun h5 => ?_) (fun h5 => q2 ⟨⟨x, h1, h2, rfl⟩, y, h3, h4, rfl⟩ (by omega))
      refine hX _ _ _ _ _ _ _ ?_
      refine c_keep hb hM.me hR.mn (fun σ2 k1 k2 => ?_)
      have y9 := kb k1 k2 hR
      refine c_addCart h5 hB.2.1.1 (qs rfl y9.1) (fun σ3 r3 => ?_)
      exact q1 x y h1 h2 rfl h3 h4 rfl h5 _ (YA.of y9 r3)
/-- what a contract may be -/
def okD (l h q p : Int32) (lo hi qn pn : Nat) : Prop := 1 ≤ lo ∧ lo ≤ hi ∧ hi ≤ 6 ∧ 1 ≤ qn ∧ qn ≤ 99 ∧ pn ≤ 9 ∧ l = nI lo ∧ h = nI hi ∧ q = nI qn ∧ p = nI pn
set_option maxRecDepth 100000 in
theorem c_ytake {l h q p : Int32} (hB : BD m n nc ns nd) (hR : RYs σ m) (hM : YM σ a row) (q1 : ∀ lo hi qn pn, okD l h q p lo hi qn pn → nd < 6 → ∀ σ', YA σ (yaD m nd (nI lo) (nI hi) (nI qn) (nI pn)) (min 12 (a + 1)) (psh m row) σ' → Q (.inl (some (.int (nI nd)))) sh_9 σ') (q0 : (¬ ∃ lo hi qn pn, okD l h q p lo hi qn pn) → Q (.inr 0) sh_9 σ) (q2 : (∃ lo hi qn pn, okD l h q p lo hi qn pn) → nd = 6 → Q (.inr 1) sh_9 σ) : mD (d + 4) 16 [.ref 0, .int l, .int h, .int q, .int p] sh_9 σ Q := by
  have hn := hB.2.2.2.1.2
  have hb := hB.2.2.2.2.2.2.2.2.2.2.1
  have e5 : σ 5 10 = nI nd := (hR.g rf0.2.2.2.1).trans hB.2.2.2.1.1
  refine ⟨rfl, fun X hX => ?_⟩
  have bad2 : (¬ ∃ lo hi qn pn, okD l h q p lo hi qn pn) → X 51 [none, none, none, none, none, none] [] sh_9 σ 0 0 := by
    intro z
    refine hX _ _ _ _ _ _ _ ?_
    exact q0 z
  have bad : (¬ ∃ lo hi qn pn, okD l h q p lo hi qn pn) → X 20 [some (.ref 0), some (.int l), some (.int h), some (.int q), some (.int p), none] [] sh_9 σ 0 0 := by
    intro z
    refine hX _ _ _ _ _ _ _ ?_
    refine hX _ _ _ _ _ _ _ ?_
    refine ⟨fun _ => bad2 z, fun z => absurd rfl z⟩
  have nol : (∀ lo, 1 ≤ lo → lo ≤ 6 → ¬ l = nI lo) → ¬ ∃ lo hi qn pn, okD l h q p lo hi qn pn := by
    rintro z ⟨lo, hi, qn, pn, b1, b2, b3, b4, b5, b6, b7, b8, b9, b10⟩
    exact z lo b1 (by omega) b7
  refine hX _ _ _ _ _ _ _ ?_
  by_cases hl : l < nI 1
  · refine ⟨fun _ => bad (nol (fun lo a b e => ?_)), fun z => absurd hl z⟩
    rw [e, nI_ltI (by omega) (by omega)] at hl; omega
  refine ⟨fun z => absurd z hl, fun _ => ?_⟩
  by_cases hlh : h < l
  · refine ⟨fun _ => bad ?_, fun z => absurd hlh z⟩
    rintro ⟨lo, hi, qn, pn, b1, b2, b3, b4, b5, b6, b7, b8, b9, b10⟩
    rw [b7, b8, nI_ltI (by omega) (by omega)] at hlh; omega
  refine ⟨fun z => absurd z hlh, fun _ => ?_⟩
  by_cases hh : nI 6 < h
  · refine ⟨fun _ => bad ?_, fun z => absurd hh z⟩
    rintro ⟨lo, hi, qn, pn, b1, b2, b3, b4, b5, b6, b7, b8, b9, b10⟩
    rw [b8, nI_ltI (by omega) (by omega)] at hh; omega
  refine ⟨fun z => absurd z hh, fun _ => ?_⟩
  obtain ⟨hi, hi6, rfl⟩ : ∃ hi, hi ≤ 6 ∧ h = nI hi := by
    have a1 := Int32.le_iff_toInt_le.mp (Int32.not_lt.mp hh)
    have a2 := Int32.le_iff_toInt_le.mp (Int32.not_lt.mp hlh)
    have a3 := Int32.le_iff_toInt_le.mp (Int32.not_lt.mp hl)
    rw [nI_toInt (by omega)] at a1 a3
    exact nI_of3 (b := 6) (by omega) a1 (by omega)
  obtain ⟨lo, lo6, rfl⟩ : ∃ lo, lo ≤ hi ∧ l = nI lo := by
    have a2 := Int32.le_iff_toInt_le.mp (Int32.not_lt.mp hlh)
    have a3 := Int32.le_iff_toInt_le.mp (Int32.not_lt.mp hl)
    rw [nI_toInt (by omega)] at a2 a3
    exact nI_of3 (by omega) a2 (by omega)
  have lo1 : 1 ≤ lo := by
    rw [nI_ltI (by omega) (by omega)] at hl; omega
  refine hX _ _ _ _ _ _ _ ?_
  refine ⟨fun z => absurd z (by decide +kernel), fun _ => ?_⟩
  have noq : (q < nI 1 ∨ nI 99 < q) → ¬ ∃ lo' hi' qn pn, okD (nI lo) (nI hi) q p lo' hi' qn pn := by
    rintro z ⟨lo, hi, qn, pn, b1, b2, b3, b4, b5, b6, b7, b8, b9, b10⟩
    exact rng2_no (by omega) (by omega) z ⟨qn, b4, b5, b9⟩
  rcases rng2 (p := q) (a := 1) (b := 99) (by omega) (by omega) with z | z | ⟨qn, h1, h2, rfl⟩
  · exact ⟨fun _ => bad2 (noq (Or.inl z)), fun y => absurd z y⟩
  · exact ⟨fun _ => bad2 (noq (Or.inr z)), fun _ => ⟨fun _ => bad2 (noq (Or.inr z)), fun y => absurd z y⟩⟩
  refine ⟨fun z => absurd z (nI_nlt h1 (by omega)), fun _ => ⟨fun z => absurd z (nI_nlt h2 (by omega)), fun _ => ?_⟩⟩
  have nop : (p < nI 0 ∨ nI 9 < p) → ¬ ∃ lo' hi' qn' pn, okD (nI lo) (nI hi) (nI qn) p lo' hi' qn' pn := by
    rintro z ⟨lo, hi, qn, pn, b1, b2, b3, b4, b5, b6, b7, b8, b9, b10⟩
    exact rng2_no (by omega) (by omega) z ⟨pn, by omega, b6, b10⟩
  rcases rng2 (p := p) (a := 0) (b := 9) (by omega) (by omega) with z | z | ⟨pn, h3, h4, rfl⟩
  · exact ⟨fun _ => bad2 (nop (Or.inl z)), fun y => absurd z y⟩
  · exact ⟨fun _ => bad2 (nop (Or.inr z)), fun _ => ⟨fun y => absurd z (Int32.not_lt.mpr y), fun _ => bad2 (nop (Or.inr z))⟩⟩
  refine ⟨fun z => absurd z (nI_pos (by omega)), fun _ => ⟨fun _ => ?_, fun z => absurd (nI_le h4 (by omega)) z⟩⟩
  have ok : okD (nI lo) (nI hi) (nI qn) (nI pn) lo hi qn pn := ⟨lo1, lo6, hi6, h1, h2, h4, rfl, rfl, rfl, rfl⟩
  refine hX _ _ _ _ _ _ _ ?_
  refine b_lt e5 (b := 6) rfl (by omega) (by omega) (fun h5 => ?_) (fun h5 => q2 ⟨lo, hi, qn, pn, ok⟩ (by omega))
  refine hX _ _ _ _ _ _ _ ?_
  refine c_keep hb hM.me hR.mn (fun σ2 k1 k2 => ?_)
  have y9 := kb k1 k2 hR
  refine c_addContract h5 hB.2.2.2.1.1 (qs rfl y9.1) (fun σ3 r3 => ?_)
  exact q1 lo hi qn pn ok h5 _ (YA.of y9 r3)
end CAC
