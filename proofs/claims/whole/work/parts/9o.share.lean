/-! BOTH SIDES: shovels shared among carts -/
def shQ (m : Nat → Int32) (h : Nat → Nat) (c : Nat) : Int32 := m (83 + 2 * c) / nI (h c + 1)
def shB (m : Nat → Int32) (h : Nat → Nat) : Nat → Nat
  | 0 => 0
  | k + 1 => if shQ m h (k + 1) ≤ shQ m h (shB m h k) then shB m h k else k + 1
def shH (m : Nat → Int32) (nc : Nat) : Nat → Nat → Nat
  | 0 => fun _ => 0
  | i + 1 => fun c => if c = shB m (shH m nc i) (nc - 1) then shH m nc i c + 1 else shH m nc i c
theorem shB_le {m : Nat → Int32} {h : Nat → Nat} : ∀ k, shB m h k ≤ k
  | 0 => Nat.le_refl _
  | k + 1 => by
    have := shB_le (m := m) (h := h) k
    rw [shB]
    split <;> omega
theorem shH_le {m : Nat → Int32} {nc c : Nat} : ∀ i, shH m nc i c ≤ i
  | 0 => Nat.le_refl _
  | i + 1 => by
    have := shH_le (m := m) (nc := nc) (c := c) i
    show (if c = shB m (shH m nc i) (nc - 1) then shH m nc i c + 1 else shH m nc i c) ≤ i + 1
    split <;> omega
theorem br_le {x1 x2 y1 y2 a b : Int32} {t f : Prop} (h1 : x1 = y1) (h2 : x2 = y2) (ht : a / y1 ≤ b / y2 → t) (hf : ¬ a / y1 ≤ b / y2 → f) : (a / x1 ≤ b / x2 → t) ∧ (¬ a / x1 ≤ b / x2 → f) := by
  subst h1; subst h2
  exact ⟨ht, hf⟩
section CSH
variable {d : Nat} {σ : mSg} {m : Nat → Int32} {Q : mPst} {n nc ns nd : Nat}
set_option maxRecDepth 100000 in
theorem c_nextForShovel {h : Nat → Nat} (hB : BD m n nc ns nd) (hR : RYs σ m) (hh : ∀ c, c < 3 → σ 175 c = nI (h c)) (hb : ∀ c, h c ≤ 99) (h1 : 1 ≤ nc) (hq : Q (.inl (some (.int (nI (shB m h (nc - 1)))))) sh_9 σ) : mD (d + 2) 71 [.ref 0] sh_9 σ Q := by
  have hn := hB.2.1.2
  have hv : ∀ c, c < 3 → ∀ W, W = σ → W 175 (nI c).toNatClampNeg + nI 1 = nI (h c + 1) := by
    intro c hc W hW
    rw [hW, nI_clamp (by omega), hh c hc, nI_add]
  have nz : ∀ c, ¬ nI (h c + 1) = 0 := fun c => nI_ne0 (by omega) (by have := hb c; omega)
  refine ⟨rfl, fun X hX => ?_⟩
  have loop : ∀ j k W, nc - 1 - k = j → k ≤ nc - 1 → W = σ → X 4 [some (.ref 0), some (.int (nI (shB m h k))), some (.int (nI (k + 1)))] [] sh_9 W 0 0 := by
    intro j
    induction j with
    | zero =>
      intro k W hj hk hW
      subst hW
      have e : W 5 8 = nI nc := (hR.g rf0.2.1).trans hB.2.1.1
      have ek : k = nc - 1 := by omega
      subst ek
      refine hX _ _ _ _ _ _ _ ?_
      refine b_ge rfl e (by omega) (by omega) (fun _ => ?_) (fun h => by omega)
      refine hX _ _ _ _ _ _ _ ?_
      exact hq
    | succ j ih =>
      intro k W hj hk hW
      have e : W 5 8 = nI nc := by rw [hW]; exact (hR.g rf0.2.1).trans hB.2.1.1
      have hbk := shB_le (m := m) (h := h) k
      have e1 := hv (k + 1) (by omega) _ (qn hW)
      have e2 := hv (shB m h k) (by omega) _ (qn (qn hW))
      have hd : shB m h (k + 1) = if shQ m h (k + 1) ≤ shQ m h (shB m h k) then shB m h k else k + 1 := rfl
      have h9 := ih (k + 1) _ (by omega) (by omega) (qn (qn hW))
      refine hX _ _ _ _ _ _ _ ?_
      refine b_ge rfl e (by omega) (by omega) (fun h => by omega) (fun _ => ?_)
      refine c_holdOf (s := k + 1) (by omega) (qs hW hR) ?_
      refine ⟨vp_in_nI (by omega) (by omega), ?_⟩
      refine ⟨fun z => nz (k + 1) (e1.symm.trans z), ?_⟩
      refine c_holdOf (s := shB m h k) (by omega) (qs (qn hW) hR) ?_
      refine ⟨vp_in_nI (by omega) (by omega), ?_⟩
      refine ⟨fun z => nz (shB m h k) (e2.symm.trans z), ?_⟩
      refine br_le e1 e2 (fun hl => ?_) (fun hl => ?_)
      · have hl : shQ m h (k + 1) ≤ shQ m h (shB m h k) := hl
        rw [if_pos hl] at hd
        refine hX _ _ _ _ _ _ _ ?_
        rw [hd, ← nI_1 (k + 1)] at h9
        exact h9
      · have hl : ¬ shQ m h (k + 1) ≤ shQ m h (shB m h k) := hl
        rw [if_neg hl] at hd
        refine hX _ _ _ _ _ _ _ ?_
        rw [hd, ← nI_1 (k + 1)] at h9
        exact h9
  refine hX _ _ _ _ _ _ _ ?_
  exact loop _ 0 σ rfl (Nat.zero_le _) rfl
set_option maxRecDepth 100000 in
theorem c_yshare {p w : Int32} (hB : BD m n nc ns nd) (hR : RYs σ m) (q1 : ∀ c k, c < nc → p = nI c → k ≤ 99 → w = nI k → ∀ σ', (∀ c, c < 175 → σ' c = σ c) → Q (.inl (some (.int (nI (shH m nc k c))))) sh_9 σ') (q0 : (¬ ∃ c, c < nc ∧ p = nI c) → Q (.inr 2) sh_9 σ) (q2 : (∃ c, c < nc ∧ p = nI c) → (¬ ∃ k, 0 ≤ k ∧ k ≤ 99 ∧ w = nI k) → Q (.inr 0) sh_9 σ) : mD (d + 3) 40 [.ref 0, .int p, .int w] sh_9 σ Q := by
  have hn := hB.2.1.2
  refine ⟨rfl, fun X hX => ?_⟩
  refine hX _ _ _ _ _ _ _ ?_
  refine c_needCart hB hR (fun c hc e => ?_) q0
  have bad : (¬ ∃ k, 0 ≤ k ∧ k ≤ 99 ∧ w = nI k) → X 15 [none, none, none, none] [] sh_9 σ 1 6 := by
    intro h
    refine hX _ _ _ _ _ _ _ ?_
    exact q2 ⟨c, hc, e⟩ h
  rcases rng2 (p := w) (a := 0) (b := 99) (by omega) (by omega) with hy | hy | ⟨N, h1, h2, rfl⟩
  · exact ⟨fun _ => bad (rng2_no (by omega) (by omega) (Or.inl hy)), fun z => absurd hy z⟩
  · exact ⟨fun _ => bad (rng2_no (by omega) (by omega) (Or.inr hy)), fun _ => ⟨fun z => absurd hy (Int32.not_lt.mpr z), fun _ => bad (rng2_no (by omega) (by omega) (Or.inr hy))⟩⟩
  subst e
  have hq := q1 c N hc rfl h2 rfl
  refine ⟨fun z => absurd z (nI_pos (by omega)), fun _ => ⟨fun _ => ?_, fun z => absurd (nI_le h2 (by omega)) z⟩⟩
  have loop : ∀ j i W, N - i = j → i ≤ N → (∀ c, c < 175 → W c = σ c) → (∀ c, c < 3 → W 175 c = nI (shH m nc i c)) → X 48 [some (.ref 0), some (.int (nI c)), some (.int (nI N)), some (.int (nI i))] [] sh_9 W 1 6 := by
    intro j
    induction j with
    | zero =>
      intro i W hj hi w1 w2
      have ei : i = N := by omega
      subst ei
      refine hX _ _ _ _ _ _ _ ?_
      refine b_ge rfl rfl (by omega) (by omega) (fun _ => ?_) (fun h => by omega)
      refine hX _ _ _ _ _ _ _ ?_
      refine ⟨vp_in_nI (by omega) (by omega), ?_⟩
      refine qi ?_ (hq W w1)
      show _ = W 175 (nI c).toNatClampNeg
      rw [nI_clamp (by omega), w2 c (by omega)]
    | succ j ih =>
      intro i W hj hi w1 w2
      have hb : ∀ c, shH m nc i c ≤ 99 := fun c => by have := shH_le (m := m) (nc := nc) (c := c) i; omega
      have hbk := shB_le (m := m) (h := shH m nc i) (nc - 1)
      have nxt : ∀ W x, x = nI (i + 1) → (∀ c, c < 175 → W c = σ c) → (∀ c, c < 3 → W 175 c = nI (shH m nc (i + 1) c)) → X 48 [some (.ref 0), some (.int (nI c)), some (.int (nI N)), some (.int x)] [] sh_9 W 1 6 := by
        intro W x hx
        subst hx
        exact ih (i + 1) W (by omega) (by omega)
      refine hX _ _ _ _ _ _ _ ?_
      refine b_ge rfl rfl (by omega) (by omega) (fun h => by omega) (fun _ => ?_)
      refine c_nextForShovel (h := shH m nc i) hB (hR.cg (fun c h5 h14 => w1 c (by omega))) w2 hb (by omega) ?_
      refine ⟨vp_in_nI (by omega) (by omega), ?_⟩
      refine ⟨vp_in_nI (by omega) (by omega), ?_⟩
      refine nxt _ _ (nI_1 i) (fun c hc => ?_) (fun c hc => ?_)
      · rw [mput_ne (by omega)]
        exact w1 c hc
      · rw [mput_eq, nI_clamp (by omega)]
        show upd (W 175) (shB m (shH m nc i) (nc - 1)) (W 175 (shB m (shH m nc i) (nc - 1)) + nI 1) c = nI (if c = shB m (shH m nc i) (nc - 1) then shH m nc i c + 1 else shH m nc i c)
        by_cases ec : c = shB m (shH m nc i) (nc - 1)
        · rw [if_pos ec, ← ec, upd_at, w2 c hc, nI_add]
        · rw [if_neg ec, upd_off ec, w2 c hc]
  have clr : ∀ j k W, 3 - k = j → k ≤ 3 → (∀ c, c < 175 → W c = σ c) → (∀ c, c < k → W 175 c = nI 0) → X 28 [some (.ref 0), some (.int (nI c)), some (.int (nI N)), some (.int (nI k))] [] sh_9 W 1 6 := by
    intro j
    induction j with
    | zero =>
      intro k W hj hk w1 w2
      refine hX _ _ _ _ _ _ _ ?_
      refine b_ge rfl (b := 3) rfl (by omega) (by omega) (fun _ => ?_) (fun h => by omega)
      refine hX _ _ _ _ _ _ _ ?_
      exact loop _ 0 W rfl (Nat.zero_le _) w1 (fun c hc => w2 c (by omega))
    | succ j ih =>
      intro k W hj hk w1 w2
      refine hX _ _ _ _ _ _ _ ?_
      refine b_ge rfl (b := 3) rfl (by omega) (by omega) (fun h => by omega) (fun _ => ?_)
      refine ⟨vp_in_nI (by omega) (by omega), ?_⟩
      have h9 := ih (k + 1) (mput W 175 (nI k).toNatClampNeg (nI 0)) (by omega) (by omega) (fun c hc => by rw [mput_ne (by omega)]; exact w1 c hc) (fun c hc => by
        rw [mput_eq, nI_clamp (by omega)]
        by_cases ec : c = k
        · rw [ec, upd_at]
        · rw [upd_off ec]; exact w2 c (by omega))
      rw [← nI_1 k] at h9
      exact h9
  refine hX _ _ _ _ _ _ _ ?_
  exact clr _ 0 σ rfl (by omega) (fun _ _ => rfl) (fun c hc => absurd hc (by omega))
end CSH
section MSH
variable {d : Nat} {σ : mSg} {Q : mPst} {n nc ns nd : Nat}
theorem g_share {p w : Int32} (hB : BD (σ 1) n nc ns nd) (q1 : ∀ c k, c < nc → p = nI c → k ≤ 99 → w = nI k → ∀ σ', MX σ (σ 1) (nI 0) σ' → Q (.inl (some (.int (nI (shH (σ 1) nc k c))))) sh_10 σ') (q0 : (¬ ∃ c, c < nc ∧ p = nI c) → ∀ σ', MX σ (σ 1) (nI 1) σ' → Q (.inl (some (.int (nI 0)))) sh_10 σ') (q2 : (∃ c, c < nc ∧ p = nI c) → (¬ ∃ k, 0 ≤ k ∧ k ≤ 99 ∧ w = nI k) → ∀ σ', MX σ (σ 1) (nI 2) σ' → Q (.inl (some (.int (nI 0)))) sh_10 σ') : mD (d + 3) 205 [.ref 0, .int p, .int w] sh_10 σ Q := by
  have hn := hB.2.1.2
  refine ⟨rfl, fun X hX => ?_⟩
  refine hX _ _ _ _ _ _ _ ?_
  refine g_isCart (fun h1 => ?_) (fun h1 => ?_)
  · rw [hB.2.1.1, sIn_iff (by omega)] at h1
    refine ⟨fun _ => ?_, fun z => absurd z (by decide +kernel)⟩
    refine hX _ _ _ _ _ _ _ ?_
    refine g_isIn (fun h2 => ?_) (fun h2 => ?_)
    · have h2 : sIn w (nI 0) (nI 99) := h2
      rw [sIn2_iff (by omega) (by omega)] at h2
      obtain ⟨c, hc, rfl⟩ := h1
      obtain ⟨N, -, hN, rfl⟩ := h2
      have hq := q1 c N hc rfl hN rfl
      refine ⟨fun _ => ?_, fun z => absurd z (by decide +kernel)⟩
      refine hX _ _ _ _ _ _ _ ?_
      refine hX _ _ _ _ _ _ _ ?_
      refine ⟨fun _ => ?_, fun z => absurd (show nI 0 ≤ 0 from by decide +kernel) z⟩
      have inn : ∀ i W, i < N → (∀ c, c ≠ 11 → W c = mput σ 0 0 (nI 0) c) → (∀ c, c < 3 → W 11 c = nI (shH (σ 1) nc i c)) → (X 129 [some (.ref 0), some (.int (nI c)), some (.int (nI N)), some (.int (nI i)), some (.int (nI (shB (σ 1) (shH (σ 1) nc i) (nc - 1)))), none] [] sh_10 W 0 0) → ∀ j k, nc - 1 - k = j → k ≤ nc - 1 → X 73 [some (.ref 0), some (.int (nI c)), some (.int (nI N)), some (.int (nI i)), some (.int (nI (shB (σ 1) (shH (σ 1) nc i) k))), some (.int (nI (k + 1)))] [] sh_10 W 0 0 := by
        intro i W hi w1 w2 hk j
        have hb : ∀ c, shH (σ 1) nc i c ≤ 99 := fun c => by have := shH_le (m := σ 1) (nc := nc) (c := c) i; omega
        generalize shH (σ 1) nc i = h at w2 hk hb ⊢
        have e4 : W 1 4 = nI nc := by rw [w1 1 (by omega)]; exact hB.2.1.1
        have hv : ∀ c, c < 3 → W 11 (nI c).toNatClampNeg + nI 1 = nI (h c + 1) := by
          intro c hc
          rw [nI_clamp (by omega), w2 c hc, nI_add]
        have nz : ∀ c, ¬ nI (h c + 1) = 0 := fun c => nI_ne0 (by omega) (by have := hb c; omega)
        have hm : ∀ c, W 1 (83 + 2 * c) = σ 1 (83 + 2 * c) := fun c => by rw [w1 1 (by omega)]; rfl
        induction j with
        | zero =>
          intro k hj hk2
          have ek : k = nc - 1 := by omega
          subst ek
          refine hX _ _ _ _ _ _ _ ?_
          refine ⟨vp_in_nI (n := 4) (by omega) (by omega), ?_⟩
          refine b_ge rfl e4 (by omega) (by omega) (fun _ => ?_) (fun h => by omega)
          exact hk
        | succ j ih =>
          intro k hj hk2
          have hbk := shB_le (m := σ 1) (h := h) k
          have e1 := hv (k + 1) (by omega)
          have e2 := hv (shB (σ 1) h k) (by omega)
          have hd : shB (σ 1) h (k + 1) = if shQ (σ 1) h (k + 1) ≤ shQ (σ 1) h (shB (σ 1) h k) then shB (σ 1) h k else k + 1 := rfl
          have h9 := ih (k + 1) (by omega) (by omega)
          refine hX _ _ _ _ _ _ _ ?_
          refine ⟨vp_in_nI (n := 4) (by omega) (by omega), ?_⟩
          refine b_ge rfl e4 (by omega) (by omega) (fun h => by omega) (fun _ => ?_)
          refine g_hold (c := k + 1) (by omega) ?_
          refine ⟨vp_in_nI (by omega) (by omega), ?_⟩
          refine ⟨fun z => nz (k + 1) (e1.symm.trans z), ?_⟩
          refine g_hold (c := shB (σ 1) h k) (by omega) ?_
          refine ⟨vp_in_nI (by omega) (by omega), ?_⟩
          refine ⟨fun z => nz (shB (σ 1) h k) (e2.symm.trans z), ?_⟩
          refine br_le e1 e2 (fun hl => ?_) (fun hl => ?_)
          · rw [hm, hm] at hl
            have hl : shQ (σ 1) h (k + 1) ≤ shQ (σ 1) h (shB (σ 1) h k) := hl
            rw [if_pos hl] at hd
            refine hX _ _ _ _ _ _ _ ?_
            rw [hd, ← nI_1 (k + 1)] at h9
            exact h9
          · rw [hm, hm] at hl
            have hl : ¬ shQ (σ 1) h (k + 1) ≤ shQ (σ 1) h (shB (σ 1) h k) := hl
            rw [if_neg hl] at hd
            refine hX _ _ _ _ _ _ _ ?_
            rw [hd, ← nI_1 (k + 1)] at h9
            exact h9
      have loop : ∀ j i W, N - i = j → i ≤ N → (∀ c, c ≠ 11 → W c = mput σ 0 0 (nI 0) c) → (∀ c, c < 3 → W 11 c = nI (shH (σ 1) nc i c)) → X 62 [some (.ref 0), some (.int (nI c)), some (.int (nI N)), some (.int (nI i)), none, none] [] sh_10 W 0 0 := by
        intro j
        induction j with
        | zero =>
          intro i W hj hi w1 w2
          have ei : i = N := by omega
          subst ei
          refine hX _ _ _ _ _ _ _ ?_
          refine b_ge rfl rfl (by omega) (by omega) (fun _ => ?_) (fun h => by omega)
          refine hX _ _ _ _ _ _ _ ?_
          refine ⟨vp_in_nI (by omega) (by omega), ?_⟩
          refine qi ?_ (hq W (MX.lo rfl (fun c hc => w1 c (by omega))))
          show _ = W 11 (nI c).toNatClampNeg
          rw [nI_clamp (by omega), w2 c (by omega)]
        | succ j ih =>
          intro i W hj hi w1 w2
          have hbk := shB_le (m := σ 1) (h := shH (σ 1) nc i) (nc - 1)
          have nxt : ∀ W x, x = nI (i + 1) → (∀ c, c ≠ 11 → W c = mput σ 0 0 (nI 0) c) → (∀ c, c < 3 → W 11 c = nI (shH (σ 1) nc (i + 1) c)) → X 62 [some (.ref 0), some (.int (nI c)), some (.int (nI N)), some (.int x), none, none] [] sh_10 W 0 0 := by
            intro W x hx
            subst hx
            exact ih (i + 1) W (by omega) (by omega)
          refine hX _ _ _ _ _ _ _ ?_
          refine b_ge rfl rfl (by omega) (by omega) (fun h => by omega) (fun _ => ?_)
          refine inn i W (by omega) w1 w2 ?_ _ 0 rfl (by omega)
          refine hX _ _ _ _ _ _ _ ?_
          refine ⟨vp_in_nI (by omega) (by omega), ?_⟩
          refine ⟨vp_in_nI (by omega) (by omega), ?_⟩
          refine nxt _ _ (nI_1 i) (fun c hc => ?_) (fun c hc => ?_)
          · rw [mput_ne hc]
            exact w1 c hc
          · rw [mput_eq, nI_clamp (by omega)]
            show upd (W 11) (shB (σ 1) (shH (σ 1) nc i) (nc - 1)) (W 11 (shB (σ 1) (shH (σ 1) nc i) (nc - 1)) + nI 1) c = nI (if c = shB (σ 1) (shH (σ 1) nc i) (nc - 1) then shH (σ 1) nc i c + 1 else shH (σ 1) nc i c)
            by_cases ec : c = shB (σ 1) (shH (σ 1) nc i) (nc - 1)
            · rw [if_pos ec, ← ec, upd_at, w2 c hc, nI_add]
            · rw [if_neg ec, upd_off ec, w2 c hc]
      have clr : ∀ j k W, 3 - k = j → k ≤ 3 → (∀ c, c ≠ 11 → W c = mput σ 0 0 (nI 0) c) → (∀ c, c < k → W 11 c = nI 0) → X 42 [some (.ref 0), some (.int (nI c)), some (.int (nI N)), some (.int (nI k)), none, none] [] sh_10 W 0 0 := by
        intro j
        induction j with
        | zero =>
          intro k W hj hk w1 w2
          refine hX _ _ _ _ _ _ _ ?_
          refine b_ge rfl (b := 3) rfl (by omega) (by omega) (fun _ => ?_) (fun h => by omega)
          refine hX _ _ _ _ _ _ _ ?_
          exact loop _ 0 W rfl (Nat.zero_le _) w1 (fun c hc => w2 c (by omega))
        | succ j ih =>
          intro k W hj hk w1 w2
          refine hX _ _ _ _ _ _ _ ?_
          refine b_ge rfl (b := 3) rfl (by omega) (by omega) (fun h => by omega) (fun _ => ?_)
          refine ⟨vp_in_nI (by omega) (by omega), ?_⟩
          have h9 := ih (k + 1) (mput W 11 (nI k).toNatClampNeg (nI 0)) (by omega) (by omega) (fun c hc => by rw [mput_ne hc]; exact w1 c hc) (fun c hc => by
            rw [mput_eq, nI_clamp (by omega)]
            by_cases ec : c = k
            · rw [ec, upd_at]
            · rw [upd_off ec]; exact w2 c (by omega))
          rw [← nI_1 k] at h9
          exact h9
      refine hX _ _ _ _ _ _ _ ?_
      exact clr _ 0 _ rfl (by omega) (fun _ _ => rfl) (fun c hc => absurd hc (by omega))
    · have h2 : ¬ sIn w (nI 0) (nI 99) := h2
      rw [sIn2_iff (by omega) (by omega)] at h2
      refine ⟨fun z => absurd rfl z, fun _ => ?_⟩
      refine hX _ _ _ _ _ _ _ ?_
      refine ⟨fun z => absurd (show nI 2 ≤ 0 from z) (by decide +kernel), fun _ => ?_⟩
      exact q2 h1 h2 _ MX.th
  · rw [hB.2.1.1, sIn_iff (by omega)] at h1
    refine ⟨fun z => absurd rfl z, fun _ => ?_⟩
    refine hX _ _ _ _ _ _ _ ?_
    refine ⟨fun z => absurd (show nI 1 ≤ 0 from z) (by decide +kernel), fun _ => ?_⟩
    exact q0 h1 _ MX.th
end MSH
