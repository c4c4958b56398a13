/-! THE CLASS: which street it was, which grain to ask for -/
def pBn (m : Nat → Int32) (P : Nat → Bool) (g v : Nat) : Nat → Nat
  | 0 => 0
  | s + 1 => if (P s && decide (m (22 + 9 * s + g) = nI v)) = true then pBn m P g v s + 1 else pBn m P g v s
theorem pBn_le {m : Nat → Int32} {P : Nat → Bool} {g v : Nat} : ∀ s, pBn m P g v s ≤ s
  | 0 => Nat.le_refl _
  | s + 1 => by
    have := pBn_le (m := m) (P := P) (g := g) (v := v) s
    rw [pBn]
    split <;> omega
def gM (F : Nat → Nat) : Nat → Nat
  | 0 => 0
  | k + 1 => max (gM F k) (F k)
theorem gM_le {F : Nat → Nat} {b : Nat} : ∀ k, (∀ i, i < k → F i ≤ b) → gM F k ≤ b
  | 0, _ => Nat.zero_le _
  | k + 1, h => Nat.max_le.mpr ⟨gM_le k (fun i hi => h i (by omega)), h k (by omega)⟩
theorem gM_congr {F F' : Nat → Nat} : ∀ k, (∀ i, i < k → F i = F' i) → gM F k = gM F' k
  | 0, _ => rfl
  | k + 1, h => by rw [gM, gM, gM_congr k (fun i hi => h i (by omega)), h k (by omega)]
def aF (G : Nat → Nat) (l0 : Nat) : Nat → Option Nat × Nat
  | 0 => (none, l0)
  | k + 1 => if G (k + 1) < (aF G l0 k).2 then (some (k + 1), G (k + 1)) else aF G l0 k
theorem aF_eq {G : Nat → Nat} {l0 l1 : Nat} (h : G 1 < l0) (h1 : G 1 < l1) : ∀ k, aF G l0 (k + 1) = aF G l1 (k + 1) ∧ ∃ b, (aF G l0 (k + 1)).1 = some b
  | 0 => by
    have e0 : aF G l0 (0 + 1) = if G 1 < l0 then (some 1, G 1) else aF G l0 0 := rfl
    have e1 : aF G l1 (0 + 1) = if G 1 < l1 then (some 1, G 1) else aF G l1 0 := rfl
    rw [e0, e1, if_pos h, if_pos h1]
    exact ⟨rfl, 1, rfl⟩
  | k + 1 => by
    obtain ⟨i1, b, i2⟩ := aF_eq h h1 k
    have e0 : aF G l0 (k + 1 + 1) = if G (k + 1 + 1) < (aF G l0 (k + 1)).2 then (some (k + 1 + 1), G (k + 1 + 1)) else aF G l0 (k + 1) := rfl
    have e1 : aF G l1 (k + 1 + 1) = if G (k + 1 + 1) < (aF G l1 (k + 1)).2 then (some (k + 1 + 1), G (k + 1 + 1)) else aF G l1 (k + 1) := rfl
    rw [e0, e1, ← i1]
    refine ⟨rfl, ?_⟩
    split
    · exact ⟨_, rfl⟩
    · exact ⟨b, i2⟩
theorem aF_le {G : Nat → Nat} {l0 : Nat} : ∀ k, (aF G l0 k).2 ≤ l0
  | 0 => Nat.le_refl _
  | k + 1 => by
    have := aF_le (G := G) (l0 := l0) k
    rw [aF]
    split
    · show G (k + 1) ≤ l0
      omega
    · exact this
def gA (m : Nat → Int32) (P : Nat → Bool) (n g : Nat) : Nat := gM (fun v => pBn m P g v n) 10
theorem gA_le {m : Nat → Int32} {P : Nat → Bool} {n g : Nat} : gA m P n g ≤ n := gM_le 10 (fun v _ => pBn_le n)
def sAs (m : Nat → Int32) (P : Nat → Bool) (n : Nat) : Int32 := if pb (sN P n) 7 < 2 then -(nI 1) else oM (-(nI 1)) (aF (gA m P n) 8 6).1
section CAS
variable {d : Nat} {σ : mSg} {m : Nat → Int32} {Q : mPst} {n nc ns nd : Nat} {B : Nat → Nat}
theorem c_clearParts {σ : mSg} (hq : ∀ σ', (∀ c, c ≠ 3 → σ' c = σ c) → (∀ i, i < 10 → σ' 3 i = nI 0) → Q (.inl none) sh_1 σ') : mD (d + 1) 251 [.ref 0] sh_1 σ Q := by
  refine ⟨rfl, fun X hX => ?_⟩
  have loop : ∀ r k W, 10 - k = r → k ≤ 10 → (∀ c, c ≠ 3 → W c = σ c) → (∀ i, i < k → W 3 i = nI 0) → X 2 [some (.ref 0), some (.int (nI k))] [] sh_1 W 0 0 := by
    intro r
    induction r with
    | zero =>
      intro k W hr hk w1 w2
      refine hX _ _ _ _ _ _ _ ?_
      refine b_ge rfl (b := 10) rfl (by omega) (by omega) (fun _ => ?_) (fun h => by omega)
      refine hX _ _ _ _ _ _ _ ?_
      exact hq W w1 (fun i hi => w2 i (by omega))
    | succ r ih =>
      intro k W hr hk w1 w2
      refine hX _ _ _ _ _ _ _ ?_
      refine b_ge rfl (b := 10) rfl (by omega) (by omega) (fun h => by omega) (fun _ => ?_)
      refine ⟨vp_in_nI (by omega) (by omega), ?_⟩
      have h9 := ih (k + 1) (mput W 3 (nI k).toNatClampNeg (nI 0)) (by omega) (by omega) (fun c hc => by rw [mput_ne hc]; exact w1 c hc) (fun i hi => by
        rw [mput_eq, nI_clamp (by omega)]
        by_cases e : i = k
        · rw [e, upd_at]
        · rw [upd_off e]; exact w2 i (by omega))
      rw [← nI_1 k] at h9
      exact h9
  refine hX _ _ _ _ _ _ _ ?_
  exact loop _ 0 σ rfl (by omega) (fun _ _ => rfl) (fun i hi => absurd hi (by omega))
theorem c_greatestPart {σ : mSg} {F : Nat → Nat} (hF : ∀ i, i < 10 → σ 3 i = nI (F i)) (hb : ∀ i, i < 10 → F i ≤ 99) (hq : Q (.inl (some (.int (nI (gM F 10))))) sh_1 σ) : mD (d + 1) 252 [.ref 0] sh_1 σ Q := by
  refine ⟨rfl, fun X hX => ?_⟩
  have loop : ∀ r k, 10 - k = r → k ≤ 10 → X 4 [some (.ref 0), some (.int (nI (gM F k))), some (.int (nI k))] [] sh_1 σ 0 0 := by
    intro r
    induction r with
    | zero =>
      intro k hr hk
      have ek : k = 10 := by omega
      subst ek
      refine hX _ _ _ _ _ _ _ ?_
      refine b_ge rfl (b := 10) rfl (by omega) (by omega) (fun _ => ?_) (fun h => by omega)
      refine hX _ _ _ _ _ _ _ ?_
      exact hq
    | succ r ih =>
      intro k hr hk
      have hg := gM_le (F := F) (b := 99) k (fun i hi => hb i (by omega))
      have hk2 := hb k (by omega)
      refine hX _ _ _ _ _ _ _ ?_
      refine b_ge rfl (b := 10) rfl (by omega) (by omega) (fun h => by omega) (fun _ => ?_)
      refine ⟨vp_in_nI (by omega) (by omega), ?_⟩
      have ev : cMx (nI (gM F k)) (σ 3 (nI k).toNatClampNeg) = nI (gM F (k + 1)) := by
        show _ = nI (max (gM F k) (F k))
        rw [nI_clamp (by omega), hF k (by omega), cMx_nI (by omega) (by omega)]
      have h9 := ih (k + 1) (by omega) (by omega)
      rw [← ev, ← nI_1 k] at h9
      exact h9
  refine hX _ _ _ _ _ _ _ ?_
  exact loop _ 0 rfl (by omega)
theorem RR.cg {W σ : mSg} (hR : RR σ m) (h : ∀ c, 4 ≤ c → W c = σ c) : RR W m := RS.congr hR (fun c hc => by
  show W (mgl [(4, 9)] c) = σ (mgl [(4, 9)] c)
  rw [mgl9 hc]
  exact h _ (by omega))
theorem g04 : ∀ c, c < 4 → mgl [(0, 4)] c = c := by decide +kernel
theorem rn0 {σ W : mSg} (h : W = σ) : mback [(0, 4)] W (fun j => W (mgl [(0, 4)] j)) = σ := by rw [same1, h]
theorem bk04 {W f : mSg} {c : Nat} (h : c < 4) : mback [(0, 4)] W f c = f c := by rw [mback_in (by omega), Nat.sub_zero]
theorem c_grainToAsk {r : Nat} {σ : mSg} (hB : BD m n nc ns nd) (hr : r ≤ 20) (hG : GR σ B r) (hg : ∀ i, i < r → 1 ≤ B (2 * i) ∧ B (2 * i) ≤ 6) (hR : RR σ m) (hq : ∀ σ', (∀ c, c ≠ 3 → σ' c = σ c) → Q (.inl (some (.int (sAs m (fiB m B r) n)))) sh_1_7 σ') : mD (d + 4) 243 [.ref 0, .ref 4] sh_1_7 σ Q := by
  have hn := hB.1.2
  have h2n : 2 ^ n ≤ 128 := Nat.pow_le_pow_right (n := 2) (by omega) hn
  have hK := sN_lt (P := fiB m B r) n
  have hset := sSet_nI (P := fiB m B r) n hn
  unfold sAs at hq
  refine ⟨rfl, fun X hX => ?_⟩
  generalize hP : fiB m B r = P at hq hK hset
  have hpl := pb_le (sN P n) (by omega)
  have cnt : ∀ g, 1 ≤ g → g ≤ 6 → ∀ v3 v4 : Int32, (∀ W, (∀ c, c ≠ 3 → W c = σ c) → (∀ v, v < 10 → W 3 v = nI (pBn m P g v n)) → X 80 [some (.ref 0), some (.ref 4), some (.int (nI (sN P n))), some (.int v3), some (.int v4), some (.int (nI g)), none] [] sh_1_7 W 0 0) → ∀ j s W, n - s = j → s ≤ n → (∀ c, c ≠ 3 → W c = σ c) → (∀ v, v < 10 → W 3 v = nI (pBn m P g v s)) → X 39 [some (.ref 0), some (.ref 4), some (.int (nI (sN P n))), some (.int v3), some (.int v4), some (.int (nI g)), some (.int (nI s))] [] sh_1_7 W 0 0 := by
    intro g g1 g6 v3 v4 hk j
    induction j with
    | zero =>
      intro s W hj hs w1 w2
      have es : s = n := by omega
      subst es
      have e : W 4 7 = nI s := by rw [w1 4 (by omega)]; exact (hR.g rf0.1).trans hB.1.1
      refine hX _ _ _ _ _ _ _ ?_
      refine b_ge rfl e (by omega) (by omega) (fun _ => ?_) (fun h => by omega)
      exact hk W w1 w2
    | succ j ih =>
      intro s W hj hs w1 w2
      have e : W 4 7 = nI n := by rw [w1 4 (by omega)]; exact (hR.g rf0.1).trans hB.1.1
      have hbs := bit_sh (sN P n) (by omega) s (by omega)
      have hbi := sN_bit (P := P) (i := s) n
      rw [decide_eq_true (show s < n by omega), Bool.true_and] at hbi
      rw [hbi] at hbs
      have nxt : ∀ W x, x = nI (s + 1) → (∀ c, c ≠ 3 → W c = σ c) → (∀ v, v < 10 → W 3 v = nI (pBn m P g v (s + 1))) → X 39 [some (.ref 0), some (.ref 4), some (.int (nI (sN P n))), some (.int v3), some (.int v4), some (.int (nI g)), some (.int x)] [] sh_1_7 W 0 0 := by
        intro W x hx
        subst hx
        exact ih (s + 1) W (by omega) (by omega)
      refine hX _ _ _ _ _ _ _ ?_
      refine b_ge rfl e (by omega) (by omega) (fun h => by omega) (fun _ => ?_)
      cases hps : P s with
      | false =>
        rw [hps, if_neg (by decide)] at hbs
        refine ⟨fun _ => ?_, fun z => absurd hbs z⟩
        refine hX _ _ _ _ _ _ _ ?_
        refine nxt _ _ (nI_1 s) w1 (fun v hv => ?_)
        rw [pBn, hps, Bool.false_and, if_neg (by decide)]
        exact w2 v hv
      | true =>
        rw [hps, if_pos rfl] at hbs
        refine ⟨fun z => absurd (hbs.symm.trans z) (by decide +kernel), fun _ => ?_⟩
        obtain ⟨q, q9, hqv⟩ := (hB.2.2.2.2.1 s (by omega)).2.2.2 (g - 1) (by omega)
        have hqv : m (22 + 9 * s + g) = nI q := by rw [← hqv]; congr 1; omega
        refine c_mixOf (by omega) g1 (by omega) (hR.cg (W := W) (fun c hc => w1 c (by omega))) ?_
        refine ⟨vin hqv (by omega) (by omega), ?_⟩
        refine ⟨vin hqv (by omega) (by omega), ?_⟩
        refine hX _ _ _ _ _ _ _ ?_
        refine nxt _ _ (nI_1 s) (fun c hc => ?_) (fun v hv => ?_)
        · show mput (mback [(4, 9)] W (fun j => W (mgl [(4, 9)] j))) 3 (m (22 + 9 * s + g)).toNatClampNeg (mback [(4, 9)] W (fun j => W (mgl [(4, 9)] j)) 3 (m (22 + 9 * s + g)).toNatClampNeg + nI 1) c = σ c
          rw [mput_ne hc, rn4 (σ := W) rfl]
          exact w1 c hc
        · show mput (mback [(4, 9)] W (fun j => W (mgl [(4, 9)] j))) 3 (m (22 + 9 * s + g)).toNatClampNeg (mback [(4, 9)] W (fun j => W (mgl [(4, 9)] j)) 3 (m (22 + 9 * s + g)).toNatClampNeg + nI 1) 3 v = _
          rw [mput_eq, clN hqv (by omega), rn4 (σ := W) rfl, pBn, hps, Bool.true_and]
          by_cases ev : v = q
          · rw [if_pos (decide_eq_true (by rw [ev]; exact hqv)), ev, upd_at, w2 q (by omega), nI_add]
          · rw [upd_off ev, if_neg (fun z => ev ?_), w2 v hv]
            have z := of_decide_eq_true z
            rw [hqv, nI_eq (by omega) (by omega)] at z
            exact z.symm
  have loop : ¬ pb (sN P n) 7 < 2 → ∀ j k W, 6 - k = j → k ≤ 6 → (∀ c, c ≠ 3 → W c = σ c) → X 25 [some (.ref 0), some (.ref 4), some (.int (nI (sN P n))), some (.int (oM (nI 1) (aF (gA m P n) 8 k).1)), some (.int (nI (aF (gA m P n) 8 k).2)), some (.int (nI (k + 1))), none] [] sh_1_7 W 0 0 := by
    intro h2 j
    induction j with
    | zero =>
      intro k W hj hk w1
      have ek : k = 6 := by omega
      subst ek
      refine hX _ _ _ _ _ _ _ ?_
      refine b_gt rfl (b := 6) rfl (by omega) (by omega) (fun _ => ?_) (fun h => by omega)
      refine hX _ _ _ _ _ _ _ ?_
      have hq := hq W w1
      rw [if_neg h2] at hq
      have hg1 := gA_le (m := m) (P := P) (n := n) (g := 1)
      obtain ⟨b, hb⟩ := (aF_eq (G := gA m P n) (l0 := 8) (l1 := 8) (by omega) (by omega) 5).2
      rw [show 5 + 1 = 6 from rfl] at hb
      rw [hb] at hq ⊢
      exact hq
    | succ j ih =>
      intro k W hj hk w1
      have hgk := gA_le (m := m) (P := P) (n := n) (g := k + 1)
      have hal := aF_le (G := gA m P n) (l0 := 8) k
      have hd : aF (gA m P n) 8 (k + 1) = if gA m P n (k + 1) < (aF (gA m P n) 8 k).2 then (some (k + 1), gA m P n (k + 1)) else aF (gA m P n) 8 k := rfl
      have nxt : ∀ W x, x = nI (k + 1 + 1) → (∀ c, c ≠ 3 → W c = σ c) → X 25 [some (.ref 0), some (.ref 4), some (.int (nI (sN P n))), some (.int (oM (nI 1) (aF (gA m P n) 8 (k + 1)).1)), some (.int (nI (aF (gA m P n) 8 (k + 1)).2)), some (.int x), none] [] sh_1_7 W 0 0 := by
        intro W x hx
        subst hx
        exact ih (k + 1) W (by omega) (by omega)
      refine hX _ _ _ _ _ _ _ ?_
      refine b_gt rfl (b := 6) rfl (by omega) (by omega) (fun h => by omega) (fun _ => ?_)
      refine c_clearParts (fun σ2 p1 p2 => ?_)
      have w1' : ∀ c, c ≠ 3 → mback [(0, 4)] W σ2 c = σ c := by
        intro c hc
        by_cases c4 : c < 4
        · rw [bk04 c4, p1 c hc]
          show W (mgl [(0, 4)] c) = σ c
          rw [g04 c c4]
          exact w1 c hc
        · rw [mback_out (by omega)]
          exact w1 c hc
      refine cnt (k + 1) (by omega) (by omega) _ _ (fun W2 u1 u2 => ?_) _ 0 _ rfl (Nat.zero_le _) w1' (fun v hv => (congrFun (bk04 (by omega)) v).trans (p2 v hv))
      have hF : ∀ W : mSg, W = W2 → ∀ i, i < 10 → (fun j => W (mgl [(0, 4)] j)) 3 i = nI ((fun v => pBn m P (k + 1) v n) i) := fun W h i hi => by rw [h]; exact u2 i hi
      have nx2 : ∀ W x, x = nI (k + 1 + 1) → W = W2 → X 25 [some (.ref 0), some (.ref 4), some (.int (nI (sN P n))), some (.int (oM (nI 1) (aF (gA m P n) 8 (k + 1)).1)), some (.int (nI (aF (gA m P n) 8 (k + 1)).2)), some (.int x), none] [] sh_1_7 W 0 0 := fun W x hx hW => nxt W x hx (by rw [hW]; exact u1)
      have hb : ∀ i, i < 10 → (fun v => pBn m P (k + 1) v n) i ≤ 99 := fun i _ => by
        have := pBn_le (m := m) (P := P) (g := k + 1) (v := i) n
        show pBn m P (k + 1) i n ≤ 99
        omega
      refine hX _ _ _ _ _ _ _ ?_
      refine c_greatestPart (hF W2 rfl) hb ?_
      refine b_ge (show nI (gM (fun v => pBn m P (k + 1) v n) 10) = nI (gA m P n (k + 1)) from rfl) rfl (by omega) (by omega) (fun h => ?_) (fun h => ?_)
      · rw [if_neg (Nat.not_lt.mpr h)] at hd
        rw [hd] at nx2
        refine hX _ _ _ _ _ _ _ ?_
        exact nx2 _ _ (nI_1 (k + 1)) (rn0 rfl)
      · rw [if_pos h] at hd
        rw [hd] at nx2
        refine c_greatestPart (hF _ (rn0 rfl)) hb ?_
        refine hX _ _ _ _ _ _ _ ?_
        exact nx2 _ _ (nI_1 (k + 1)) (rn0 (rn0 rfl))
  refine hX _ _ _ _ _ _ _ ?_
  refine c_streetsThatFit (B := B) hB hr hG hg hR ?_
  rw [hP, hset]
  refine c_bitCount rfl (by omega) ?_
  refine b_ge rfl (b := 2) rfl (by omega) (by omega) (fun h => ?_) (fun h => ?_)
  · refine hX _ _ _ _ _ _ _ ?_
    exact loop (by omega) _ 0 σ rfl (Nat.zero_le _) (fun _ _ => rfl)
  · have hq := hq σ (fun _ _ => rfl)
    rw [if_pos h] at hq
    exact hq
theorem mglG : ∀ c, c < 9 → mgl [(171, 4), (5, 9)] (mgl [(4, 9)] c) = 5 + c := by decide +kernel
theorem mglG2 : ∀ c, c < 9 → mgl [(171, 4), (5, 9)] (4 + c) = 5 + c := by decide +kernel
theorem RYs.gu (h : RYs σ m) : RR (fun j => σ (mgl [(171, 4), (5, 9)] j)) m := RS.congr h (fun c hc => by
  show σ (mgl [(171, 4), (5, 9)] (mgl [(4, 9)] c)) = σ (mgl [(5, 9)] c)
  rw [mglG c hc, mgl9 hc])
theorem GX.of {W σ2 : mSg} (g : GX σ W) (h : ∀ c, 4 ≤ c → σ2 c = W (mgl [(171, 4), (5, 9)] c)) : GX σ (mback [(171, 4), (5, 9)] W σ2) := by
  have hh : ∀ c, c < 171 ∨ 175 ≤ c → mback [(171, 4), (5, 9)] W σ2 c = W c := by
    intro c hc
    by_cases e : 5 ≤ c ∧ c < 14
    · unfold mback
      rw [mlo_skip (by omega), mlo_in e]
      show σ2 (c - 5 + 4) = W c
      rw [h _ (by omega), Nat.add_comm, mglG2 _ (by omega)]
      congr 1; omega
    · exact mback_out2 (by omega) (by omega)
  exact ⟨by rw [hh 1 (by omega)]; exact g.1, fun c a b => by rw [hh c b]; exact g.2 c a b⟩
theorem GX.r {W : mSg} (g : GX σ W) (h : RYs σ m) : RYs W m := h.cg (fun c h1 h2 => g.2 c (by omega) (by omega))
theorem gdR.g {t most : Nat} (h : gdR B t most) : (∀ i, i < t / 2 → 1 ≤ B (2 * i) ∧ B (2 * i) ≤ 6) ∧ t / 2 ≤ 20 := ⟨fun i hi => (h.2.2 i (by omega)).1, by have := h.2.1; omega⟩
set_option maxRecDepth 100000 in
theorem c_yfrom {t : Nat} (hB : BD m n nc ns nd) (hR : RYs σ m) (h3 : σ 1 3 = nI t) (ht : t ≤ 400) (hb : ∀ k, k < t → σ 2 k = nI (B k) ∧ B k < 256) (q1 : gdR B t 9 → ∀ σ', GX σ σ' → Q (.inl (some (.int (sSet (fiB m B (t / 2)) n)))) sh_9 σ') (q0 : ¬ gdR B t 9 → ∀ σ', GX σ σ' → Q (.inr 0) sh_9 σ') : mD (d + 4) 32 [.ref 0] sh_9 σ Q := by
  refine ⟨rfl, fun X hX => ?_⟩
  refine hX _ _ _ _ _ _ _ ?_
  refine c_needRows (B := B) h3 ht hb (by omega) (fun hg W g1 g2 => ?_) q0
  refine c_streetsThatFit (B := B) hB hg.g.2 g2 hg.g.1 (g1.r hR).gu ?_
  exact q1 hg _ (g1.of (fun _ _ => rfl))
set_option maxRecDepth 100000 in
theorem c_ylikely {t : Nat} (hB : BD m n nc ns nd) (hR : RYs σ m) (h3 : σ 1 3 = nI t) (ht : t ≤ 400) (hb : ∀ k, k < t → σ 2 k = nI (B k) ∧ B k < 256) (q1 : gdR B t 9 → ∀ σ', GX σ σ' → Q (.inl (some (.int (oM (-(nI 1)) (lkN (fun s => wrN m B s (t / 2)) n))))) sh_9 σ') (q0 : ¬ gdR B t 9 → ∀ σ', GX σ σ' → Q (.inr 0) sh_9 σ') : mD (d + 4) 33 [.ref 0] sh_9 σ Q := by
  refine ⟨rfl, fun X hX => ?_⟩
  refine hX _ _ _ _ _ _ _ ?_
  refine c_needRows (B := B) h3 ht hb (by omega) (fun hg W g1 g2 => ?_) q0
  refine c_likeliest (B := B) hB hg.g.2 g2 hg.g.1 (g1.r hR).gu ?_
  exact q1 hg _ (g1.of (fun _ _ => rfl))
set_option maxRecDepth 100000 in
theorem c_yask {t : Nat} (hB : BD m n nc ns nd) (hR : RYs σ m) (h3 : σ 1 3 = nI t) (ht : t ≤ 400) (hb : ∀ k, k < t → σ 2 k = nI (B k) ∧ B k < 256) (q1 : gdR B t 9 → ∀ σ', GX σ σ' → Q (.inl (some (.int (sAs m (fiB m B (t / 2)) n)))) sh_9 σ') (q0 : ¬ gdR B t 9 → ∀ σ', GX σ σ' → Q (.inr 0) sh_9 σ') : mD (d + 5) 34 [.ref 0] sh_9 σ Q := by
  refine ⟨rfl, fun X hX => ?_⟩
  refine hX _ _ _ _ _ _ _ ?_
  refine c_needRows (B := B) h3 ht hb (by omega) (fun hg W g1 g2 => ?_) q0
  refine c_grainToAsk (B := B) hB hg.g.2 g2 hg.g.1 (g1.r hR).gu (fun σ2 h2 => ?_)
  exact q1 hg _ (g1.of (fun c hc => h2 c (by omega)))
end CAS
