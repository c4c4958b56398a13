/-! THE CLASS: contracts that are open, twins, the log, counts -/
def opB (m : Nat → Int32) (k : Nat) : Bool := decide (m (93 + 5 * k + 4) = nI 1)
def hsB (m : Nat → Int32) (k : Nat) : Bool := decide (m (93 + 5 * k + 2) ≤ sHS m (dLo m k) (dHi m k + 1 - dLo m k))
def sOpn (m : Nat → Int32) (nd : Nat) : Bool → Int32
  | false => sSet (opB m) nd
  | true => sSet (fun k => opB m k && hsB m k) nd
def sWnt (m : Nat → Int32) (nd g : Nat) : Int32 := sSet (fun k => opB m k && decide (dLo m k ≤ g ∧ g ≤ dHi m k)) nd
def alB (m : Nat → Int32) (a b : Nat) : Bool := (List.range 6).all (fun g => decide (m (23 + 9 * a + g) = m (23 + 9 * b + g)))
theorem alB_iff {m : Nat → Int32} {a b : Nat} : alB m a b = true ↔ ∀ g, g < 6 → m (23 + 9 * a + g) = m (23 + 9 * b + g) := by
  unfold alB
  rw [List.all_eq_true]
  exact ⟨fun h g hg => of_decide_eq_true (h g (List.mem_range.mpr hg)), fun h g hg => decide_eq_true (h g (List.mem_range.mp hg))⟩
def sTwi (m : Nat → Int32) (a : Nat) (c : Int32) : Nat → Int32
  | 0 => c
  | j + 1 => if alB m a (a + 1 + j) = true then sTwi m a c j + nI 1 else sTwi m a c j
def sTw (m : Nat → Int32) (n : Nat) : Nat → Int32
  | 0 => nI 0
  | a + 1 => sTwi m a (sTw m n a) (n - (a + 1))
section CY3
variable {d : Nat} {σ σ2 : mSg} {m : Nat → Int32} {v : Int32} {ls : List lLn} {Q : mPst} {n nc ns nd : Nat}
set_option maxRecDepth 100000 in
theorem c_yopen {u : Int32} {can : Bool} (hu : u = (if can = true then nI 1 else nI 0)) (hB : BD m n nc ns nd) (hR : RYs σ m) (hq : Q (.inl (some (.int (sOpn m nd can)))) sh_9 σ) : mD (d + 4) 44 [.ref 0, .int u] sh_9 σ Q := by
  have hn := hB.2.2.2.1.2
  refine ⟨rfl, fun X hX => ?_⟩
  have loop : ∀ (P : Nat → Bool), (P = (if can = true then (fun k => opB m k && hsB m k) else opB m)) → Q (.inl (some (.int (sSet P nd)))) sh_9 σ → ∀ j k W, nd - k = j → k ≤ nd → W = σ → X 4 [some (.ref 0), some (.int u), some (.int (sSet P k)), some (.int (nI k))] [] sh_9 W 0 0 := by
    intro P hP hq j
    induction j with
    | zero =>
      intro k W hj hk hW
      subst hW
      have e : W 5 10 = nI nd := (hR.g rf0.2.2.2.1).trans hB.2.2.2.1.1
      have ek : k = nd := by omega
      subst ek
      refine hX _ _ _ _ _ _ _ ?_
      refine b_ge rfl e (by omega) (by omega) (fun _ => ?_) (fun h => by omega)
      refine hX _ _ _ _ _ _ _ ?_
      exact hq
    | succ j ih =>
      intro k W hj hk hW
      have e : W 5 10 = nI nd := by rw [hW]; exact (hR.g rf0.2.2.2.1).trans hB.2.2.2.1.1
      obtain ⟨lo, hi, q, p, c1, c2, c3, c4, c5, c6, c7, c8, c9, c10, c11⟩ := hB.2.2.2.2.2.2.2.1 k (by omega)
      have el : dLo m k = lo := by unfold dLo; rw [c7, nI_clamp (by omega)]
      have eh : dHi m k = hi := by unfold dHi; rw [c8, nI_clamp (by omega)]
      have no : ∀ W, W = σ → ¬ P k = true → X 50 [some (.ref 0), some (.int u), some (.int (sSet P k)), some (.int (nI k))] [] sh_9 W 0 0 := by
        intro W hW hp
        refine hX _ _ _ _ _ _ _ ?_
        have h9 := ih (k + 1) W (by omega) (by omega) hW
        rw [sSet, if_neg hp, ← nI_1 k] at h9
        exact h9
      have yes : ∀ W, W = σ → P k = true → X 44 [some (.ref 0), some (.int u), some (.int (sSet P k)), some (.int (nI k))] [] sh_9 W 0 0 := by
        intro W hW hp
        refine hX _ _ _ _ _ _ _ ?_
        refine hX _ _ _ _ _ _ _ ?_
        have h9 := ih (k + 1) W (by omega) (by omega) hW
        rw [sSet, if_pos hp, ← nI_1 k] at h9
        exact h9
      refine hX _ _ _ _ _ _ _ ?_
      refine b_ge rfl e (by omega) (by omega) (fun h => by omega) (fun _ => ?_)
      cases can with
      | true =>
        have hP : P = fun k => opB m k && hsB m k := hP
        subst hu
        refine ⟨fun h => absurd h (by decide +kernel), fun _ => ?_⟩
        refine c_canSettle (by omega) c7 c8 c1 c3 (by omega) (qs hW hR) (fun hc => ?_) (fun hc => ?_)
        · refine ⟨fun h => absurd h (by decide +kernel), fun _ => ?_⟩
          refine yes _ (qn hW) ?_
          rw [hP]
          show (decide _ && decide _) = true
          rw [el, eh, Bool.and_eq_true, decide_eq_true_eq, decide_eq_true_eq]
          exact hc
        · refine ⟨fun _ => ?_, fun h => absurd rfl h⟩
          refine no _ (qn hW) ?_
          rw [hP]
          show ¬ (decide _ && decide _) = true
          rw [el, eh, Bool.and_eq_true, decide_eq_true_eq, decide_eq_true_eq]
          exact hc
      | false =>
        have hP : P = opB m := hP
        subst hu
        refine ⟨fun _ => ?_, fun h => absurd rfl h⟩
        refine hX _ _ _ _ _ _ _ ?_
        refine c_isOpen (by omega) (qs hW hR) (fun hc => ?_) (fun hc => ?_)
        · refine ⟨fun h => absurd h (by decide +kernel), fun _ => ?_⟩
          exact yes _ (qn hW) (by rw [hP]; exact decide_eq_true hc)
        · refine ⟨fun _ => ?_, fun h => absurd rfl h⟩
          exact no _ (qn hW) (by rw [hP]; exact fun z => hc (show m (93 + 5 * k + 4) = nI 1 from of_decide_eq_true z))
  refine hX _ _ _ _ _ _ _ ?_
  refine loop _ rfl ?_ _ 0 σ rfl (Nat.zero_le _) rfl
  cases can
  · exact hq
  · exact hq
set_option maxRecDepth 100000 in
theorem c_ywanted {p : Int32} (hB : BD m n nc ns nd) (hR : RYs σ m) (q1 : ∀ g, 1 ≤ g → g ≤ 6 → p = nI g → Q (.inl (some (.int (sWnt m nd g)))) sh_9 σ) (q0 : (¬ ∃ s, 1 ≤ s ∧ s ≤ 6 ∧ p = nI s) → Q (.inr 2) sh_9 σ) : mD (d + 4) 46 [.ref 0, .int p] sh_9 σ Q := by
  have hn := hB.2.2.2.1.2
  refine ⟨rfl, fun X hX => ?_⟩
  refine hX _ _ _ _ _ _ _ ?_
  refine c_needGrain (fun g g1 g2 eg => ?_) q0
  have hq := q1 g g1 g2 eg
  subst eg
  unfold sWnt at hq
  generalize hP : (fun k => opB m k && decide (dLo m k ≤ g ∧ g ≤ dHi m k)) = P at hq
  have loop : ∀ j k W, nd - k = j → k ≤ nd → W = σ → X 8 [some (.ref 0), some (.int (nI g)), some (.int (sSet P k)), some (.int (nI k)), none] [] sh_9 W 1 6 := by
    intro j
    induction j with
    | zero =>
      intro k W hj hk hW
      subst hW
      have e : W 5 10 = nI nd := (hR.g rf0.2.2.2.1).trans hB.2.2.2.1.1
      have ek : k = nd := by omega
      subst ek
      refine hX _ _ _ _ _ _ _ ?_
      refine b_ge rfl e (by omega) (by omega) (fun _ => ?_) (fun h => by omega)
      refine hX _ _ _ _ _ _ _ ?_
      exact hq
    | succ j ih =>
      intro k W hj hk hW
      have e : W 5 10 = nI nd := by rw [hW]; exact (hR.g rf0.2.2.2.1).trans hB.2.2.2.1.1
      obtain ⟨lo, hi, q, p, c1, c2, c3, c4, c5, c6, c7, c8, c9, c10, c11⟩ := hB.2.2.2.2.2.2.2.1 k (by omega)
      have el : dLo m k = lo := by unfold dLo; rw [c7, nI_clamp (by omega)]
      have eh : dHi m k = hi := by unfold dHi; rw [c8, nI_clamp (by omega)]
      have hPk : P k = true ↔ m (93 + 5 * k + 4) = nI 1 ∧ lo ≤ g ∧ g ≤ hi := by
        rw [← hP]
        show (decide _ && decide _) = true ↔ _
        rw [el, eh, Bool.and_eq_true, decide_eq_true_eq, decide_eq_true_eq]
      have no : ∀ W, W = σ → ¬ P k = true → X 72 [some (.ref 0), some (.int (nI g)), some (.int (sSet P k)), some (.int (nI k)), none] [] sh_9 W 1 6 := by
        intro W hW hp
        refine hX _ _ _ _ _ _ _ ?_
        have h9 := ih (k + 1) W (by omega) (by omega) hW
        rw [sSet, if_neg hp, ← nI_1 k] at h9
        exact h9
      have out : ∀ W, W = σ → ¬ (lo ≤ g ∧ g ≤ hi) → X 47 [some (.ref 0), some (.int (nI g)), some (.int (sSet P k)), some (.int (nI k)), none] [] sh_9 W 1 6 := by
        intro W hW hp
        refine hX _ _ _ _ _ _ _ ?_
        refine hX _ _ _ _ _ _ _ ?_
        refine ⟨fun _ => ?_, fun h => absurd rfl h⟩
        exact no W hW (fun z => hp (hPk.mp z).2)
      refine hX _ _ _ _ _ _ _ ?_
      refine b_ge rfl e (by omega) (by omega) (fun h => by omega) (fun _ => ?_)
      refine c_lowOf (by omega) (qs hW hR) ?_
      refine b_gt c7 rfl (by omega) (by omega) (fun h => out _ (qn hW) (by omega)) (fun h1 => ?_)
      refine c_highOf (by omega) (qs (qn hW) hR) ?_
      refine b_gt rfl c8 (by omega) (by omega) (fun h => out _ (qn (qn hW)) (by omega)) (fun h2 => ?_)
      refine hX _ _ _ _ _ _ _ ?_
      refine ⟨fun h => absurd h (by decide +kernel), fun _ => ?_⟩
      refine c_isOpen (by omega) (qs (qn (qn hW)) hR) (fun hc => ?_) (fun hc => ?_)
      · refine ⟨fun h => absurd h (by decide +kernel), fun _ => ?_⟩
        refine hX _ _ _ _ _ _ _ ?_
        have h9 := ih (k + 1) _ (by omega) (by omega) (qn (qn (qn hW)))
        rw [sSet, if_pos (hPk.mpr ⟨hc, h1, h2⟩), ← nI_1 k] at h9
        exact h9
      · refine ⟨fun _ => ?_, fun h => absurd rfl h⟩
        exact no _ (qn (qn (qn hW))) (fun z => hc (hPk.mp z).1)
  exact loop _ 0 σ rfl (Nat.zero_le _) rfl
set_option maxRecDepth 100000 in
theorem c_ytwins (hB : BD m n nc ns nd) (hR : RYs σ m) (hq : Q (.inl (some (.int (sTw m n n)))) sh_9 σ) : mD (d + 4) 45 [.ref 0] sh_9 σ Q := by
  have hn := hB.1.2
  refine ⟨rfl, fun X hX => ?_⟩
  have loop : ∀ j a W, n - a = j → a ≤ n → W = σ → X 4 [some (.ref 0), some (.int (sTw m n a)), some (.int (nI a)), none] [] sh_9 W 0 0 := by
    intro j
    induction j with
    | zero =>
      intro a W hj ha hW
      subst hW
      have e : W 5 7 = nI n := (hR.g rf0.1).trans hB.1.1
      have ek : a = n := by omega
      subst ek
      refine hX _ _ _ _ _ _ _ ?_
      refine b_ge rfl e (by omega) (by omega) (fun _ => ?_) (fun h => by omega)
      refine hX _ _ _ _ _ _ _ ?_
      exact hq
    | succ j ih =>
      intro a W hj ha hW
      have e : ∀ W, W = σ → W 5 7 = nI n := fun W hW => by rw [hW]; exact (hR.g rf0.1).trans hB.1.1
      have inner : ∀ r b W, n - (a + 1) - b = r → b ≤ n - (a + 1) → W = σ → X 19 [some (.ref 0), some (.int (sTwi m a (sTw m n a) b)), some (.int (nI a)), some (.int (nI (a + 1 + b)))] [] sh_9 W 0 0 := by
        intro r
        induction r with
        | zero =>
          intro b W hr hb hW
          have eb : b = n - (a + 1) := by omega
          refine hX _ _ _ _ _ _ _ ?_
          refine b_ge rfl (e W hW) (by omega) (by omega) (fun _ => ?_) (fun h => by omega)
          refine hX _ _ _ _ _ _ _ ?_
          have h9 := ih (a + 1) W (by omega) (by omega) hW
          rw [sTw, ← eb, ← nI_1 a] at h9
          exact h9
        | succ r ih2 =>
          intro b W hr hb hW
          have nxt : ∀ W x, W = σ → x = sTwi m a (sTw m n a) (b + 1) → X 45 [some (.ref 0), some (.int x), some (.int (nI a)), some (.int (nI (a + 1 + b)))] [] sh_9 W 0 0 := by
            intro W x hW hx
            refine hX _ _ _ _ _ _ _ ?_
            have h9 := ih2 (b + 1) W (by omega) (by omega) hW
            rw [← hx, show a + 1 + (b + 1) = a + 1 + b + 1 by omega, ← nI_1 (a + 1 + b)] at h9
            exact h9
          refine hX _ _ _ _ _ _ _ ?_
          refine b_ge rfl (e W hW) (by omega) (by omega) (fun h => by omega) (fun _ => ?_)
          refine c_isAlike (by omega) (by omega) (qs hW hR) (fun hc => ?_) (fun hc => ?_)
          · refine ⟨fun h => absurd h (by decide +kernel), fun _ => ?_⟩
            exact nxt _ (sTwi m a (sTw m n a) b + nI 1) (qn hW) (by rw [sTwi, if_pos (alB_iff.mpr hc)])
          · refine ⟨fun _ => ?_, fun h => absurd rfl h⟩
            exact nxt _ _ (qn hW) (by rw [sTwi, if_neg (fun z => hc (alB_iff.mp z))])
      refine hX _ _ _ _ _ _ _ ?_
      refine b_ge rfl (e W hW) (by omega) (by omega) (fun h => by omega) (fun _ => ?_)
      have h9 := inner _ 0 W rfl (Nat.zero_le _) hW
      rw [Nat.add_zero, ← nI_1 a] at h9
      exact h9
  refine hX _ _ _ _ _ _ _ ?_
  exact loop _ 0 σ rfl (Nat.zero_le _) rfl
theorem RYs.log (h : RYs σ m) : RLg (fun j => σ (mgl [(12, 2)] j)) m := by
  obtain ⟨h1, nx, h2, h3, h4⟩ := h
  exact ⟨h1 7 1 12 rf0.2.2.2.2.2.2.2.2.2.2.2, nx, h2, h3, h4⟩
theorem qn2 {W : mSg} (h : W = σ) : mback [(12, 2)] W (fun j => W (mgl [(12, 2)] j)) = σ := by rw [same1, h]
set_option maxRecDepth 100000 in
theorem c_yled {p u : Int32} {day : Bool} {ll : Nat} (hu : u = (if day = true then nI 1 else nI 0)) (hB : BD m n nc ns nd) (hl : m 12 = nI ll) (hll : ll ≤ 60) (hR : RYs σ m) (q1 : ∀ s r, s < n → p = nI s → ((day = false ∧ r = sRo m (nI s) ll) ∨ (day = true ∧ (∀ k, k < ll → m (123 + 5 * k + 3) = nI s → (∀ i, i < k → ¬ m (123 + 5 * i + 3) = nI s) → r = m (123 + 5 * k)) ∧ ((∀ i, i < ll → ¬ m (123 + 5 * i + 3) = nI s) → r = -(nI 1)))) → Q (.inl (some (.int r))) sh_9 σ) (q0 : (¬ ∃ s, s < n ∧ p = nI s) → Q (.inr 2) sh_9 σ) : mD (d + 4) 50 [.ref 0, .int p, .int u] sh_9 σ Q := by
  refine ⟨rfl, fun X hX => ?_⟩
  refine hX _ _ _ _ _ _ _ ?_
  refine c_needStreet hB hR (fun s hs e => ?_) q0
  subst e
  cases day with
  | true =>
    subst hu
    refine ⟨fun h => absurd h (by decide +kernel), fun _ => ?_⟩
    -- the latest, found by its place
    have ex : ∃ r, (∀ k, k < ll → m (123 + 5 * k + 3) = nI s → (∀ i, i < k → ¬ m (123 + 5 * i + 3) = nI s) → r = m (123 + 5 * k)) ∧ ((∀ i, i < ll → ¬ m (123 + 5 * i + 3) = nI s) → r = -(nI 1)) := by
      by_cases h : ∃ k, k < ll ∧ m (123 + 5 * k + 3) = nI s ∧ ∀ i, i < k → ¬ m (123 + 5 * i + 3) = nI s
      · obtain ⟨k, h1, h2, h3⟩ := h
        refine ⟨m (123 + 5 * k), fun k2 g1 g2 g3 => ?_, fun g => absurd h2 (g k h1)⟩
        have : k = k2 := by
          rcases Nat.lt_trichotomy k k2 with z | z | z
          · exact absurd h2 (g3 k z)
          · exact z
          · exact absurd g2 (h3 k2 z)
        rw [this]
      · refine ⟨-(nI 1), fun k g1 g2 g3 => absurd ⟨k, g1, g2, g3⟩ h, fun _ => rfl⟩
    obtain ⟨r, r1, r2⟩ := ex
    refine c_latest (r := r) hl hll hR.log r1 r2 ?_
    refine hX _ _ _ _ _ _ _ ?_
    exact qw (Q := Q) (qn2 rfl) (q1 s r hs rfl (Or.inr ⟨rfl, r1, r2⟩))
  | false =>
    subst hu
    refine ⟨fun _ => ?_, fun h => absurd rfl h⟩
    refine hX _ _ _ _ _ _ _ ?_
    refine c_rowsOf hl hll hR.log ?_
    refine hX _ _ _ _ _ _ _ ?_
    exact qw (Q := Q) (qn2 rfl) (q1 s _ hs rfl (Or.inl ⟨rfl, rfl⟩))
set_option maxRecDepth 100000 in
theorem c_ylog {p w : Int32} {ll : Nat} (hl : m 12 = nI ll) (hll : ll ≤ 60) (hR : RYs σ m) (q1 : ∀ a k, a < ll → p = nI a → k < 5 → w = nI k → Q (.inl (some (.int (m (123 + 5 * a + k))))) sh_9 σ) (q3 : (¬ ∃ a, a < ll ∧ p = nI a) → (∃ k, k < 5 ∧ w = nI k) → Q (.inl (some (.int (-(nI 2))))) sh_9 σ) (q2 : (¬ ∃ k, k < 5 ∧ w = nI k) → Q (.inr 4) sh_9 σ) : mD (d + 4) 51 [.ref 0, .int p, .int w] sh_9 σ Q := by
  refine ⟨rfl, fun X hX => ?_⟩
  have bad : (¬ ∃ k, k < 5 ∧ w = nI k) → X 9 [none, none, none] [] sh_9 σ 0 0 := by
    intro h
    refine hX _ _ _ _ _ _ _ ?_
    exact q2 h
  refine hX _ _ _ _ _ _ _ ?_
  rcases pk_ix w (n := 5) (by omega) with h | h | ⟨k, hk, rfl⟩
  · exact ⟨fun _ => bad (rng_no (by omega) (Or.inl h)), fun z => absurd h z⟩
  · exact ⟨fun _ => bad (rng_no (by omega) (Or.inr h)), fun _ => ⟨fun z => absurd z (Int32.not_lt.mpr h), fun _ => bad (rng_no (by omega) (Or.inr h))⟩⟩
  · refine ⟨fun z => absurd z (nI_pos (by omega)), fun _ => ⟨fun _ => ?_, fun z => absurd (nI_lt hk (by omega)) z⟩⟩
    refine hX _ _ _ _ _ _ _ ?_
    refine c_logCell hk hl hll hR.log (fun a ha e => ?_) (fun h => ?_)
    · exact qw (Q := Q) (qn2 rfl) (q1 a k ha e hk rfl)
    · exact qw (Q := Q) (qn2 rfl) (q3 h ⟨k, hk, rfl⟩)
end CY3
