/-! BOTH SIDES: loads of two streets mixed -/
def blA (m : Nat → Int32) (s o a b : Nat) : Int32 := nI a * sLoad m s + nI b * sLoad m o
def blS (m : Nat → Int32) (s o g a b : Nat) : Int32 := nI a * m (22 + 9 * s + g) + nI b * m (22 + 9 * o + g)
def blP (m : Nat → Int32) (s o g k a b : Nat) : Bool := decide (0 < blA m s o a b ∧ nI k * blA m s o a b ≤ nI 100 * blS m s o g a b)
/-- of so many loads, the first count of the one street's from 10 - k on -/
def bl1 (P : Nat → Nat → Bool) (n : Nat) : Nat → Option Nat
  | 0 => none
  | k + 1 => if ((decide (9 - k ≤ n) && decide (n ≤ 9 - k + 9)) && P (9 - k) (n - (9 - k))) = true then some (9 - k) else bl1 P n k
def bl2 (P : Nat → Nat → Bool) : Nat → Int32
  | 0 => -(nI 1)
  | k + 1 => match bl1 P (18 - k) 10 with
    | some a => nI (10 * a + (18 - k - a))
    | none => bl2 P k
def sBl (m : Nat → Int32) (s o g k : Nat) : Int32 := bl2 (blP m s o g k) 18
theorem bl1_s {P : Nat → Nat → Bool} {n k a : Nat} (ha : a + k = 9) (h1 : a ≤ n) (h2 : n ≤ a + 9) : bl1 P n (k + 1) = if P a (n - a) = true then some a else bl1 P n k := by
  rw [bl1, show 9 - k = a by omega, decide_eq_true h1, decide_eq_true h2, Bool.true_and, Bool.true_and]
theorem bl1_x {P : Nat → Nat → Bool} {n k a : Nat} (ha : a + k = 9) (h : n < a ∨ a + 9 < n) : bl1 P n (k + 1) = bl1 P n k := by
  rw [bl1, show 9 - k = a by omega, if_neg]
  intro z
  simp only [Bool.and_eq_true, decide_eq_true_eq] at z
  omega
theorem bl1_hi {P : Nat → Nat → Bool} {n : Nat} : ∀ k, k ≤ 10 → n < 10 - k → bl1 P n k = none
  | 0, _, _ => rfl
  | k + 1, h0, h => by
    rw [bl1_x (a := 9 - k) (by omega) (Or.inl (by omega))]
    exact bl1_hi k (by omega) (by omega)
theorem bl1_lo {P : Nat → Nat → Bool} {n : Nat} : ∀ j, j ≤ n - 9 → j ≤ 10 → bl1 P n 10 = bl1 P n (10 - j)
  | 0, _, _ => rfl
  | j + 1, h, h0 => by
    rw [bl1_lo j (by omega) (by omega), show 10 - j = (9 - j) + 1 by omega, bl1_x (a := j) (by omega) (Or.inr (by omega)), show 10 - (j + 1) = 9 - j by omega]
theorem blP_iff {m : Nat → Int32} {s o g k a b : Nat} : blP m s o g k a b = true ↔ (0 < blA m s o a b ∧ nI k * blA m s o a b ≤ nI 100 * blS m s o g a b) := decide_eq_true_iff
section CBL
variable {d : Nat} {σ : mSg} {m : Nat → Int32} {Q : mPst} {n nc ns nd : Nat}
set_option maxRecDepth 100000 in
theorem c_yblend {p w x y : Int32} (hB : BD m n nc ns nd) (hR : RYs σ m) (q1 : ∀ s o g k, s < n → p = nI s → o < n → w = nI o → 1 ≤ g → g ≤ 6 → x = nI g → s ≠ o → k ≤ 100 → y = nI k → Q (.inl (some (.int (sBl m s o g k)))) sh_9 σ) (q0 : ¬ ((∃ s, s < n ∧ p = nI s) ∧ (∃ s, s < n ∧ w = nI s) ∧ ∃ k, 1 ≤ k ∧ k ≤ 6 ∧ x = nI k) → Q (.inr 2) sh_9 σ) (q2 : ((∃ s, s < n ∧ p = nI s) ∧ (∃ s, s < n ∧ w = nI s) ∧ ∃ k, 1 ≤ k ∧ k ≤ 6 ∧ x = nI k) → (p = w ∨ ¬ ∃ k, 0 ≤ k ∧ k ≤ 100 ∧ y = nI k) → Q (.inr 0) sh_9 σ) : mD (d + 3) 31 [.ref 0, .int p, .int w, .int x, .int y] sh_9 σ Q := by
  have hn := hB.1.2
  refine ⟨rfl, fun X hX => ?_⟩
  refine hX _ _ _ _ _ _ _ ?_
  refine c_needStreet hB hR (fun s hs e => ?_) (fun h => q0 (fun z => h z.1))
  refine c_needStreet hB hR (fun o ho e2 => ?_) (fun h => q0 (fun z => h z.2.1))
  refine c_needGrain (fun g g1 g2 e3 => ?_) (fun h => q0 (fun z => h z.2.2))
  have bad : (p = w ∨ ¬ ∃ k, 0 ≤ k ∧ k ≤ 100 ∧ y = nI k) → X 31 [none, none, none, none, none, none, none, none, none] [] sh_9 σ 3 18 := by
    intro h
    refine hX _ _ _ _ _ _ _ ?_
    exact q2 ⟨⟨s, hs, e⟩, ⟨o, ho, e2⟩, ⟨g, g1, g2, e3⟩⟩ h
  refine ⟨fun h => bad (Or.inl h), fun h => ?_⟩
  rcases rng2 (p := y) (a := 0) (b := 100) (by omega) (by omega) with hy | hy | ⟨k, h1, h2, rfl⟩
  · exact ⟨fun _ => bad (Or.inr (rng2_no (by omega) (by omega) (Or.inl hy))), fun z => absurd hy z⟩
  · exact ⟨fun _ => bad (Or.inr (rng2_no (by omega) (by omega) (Or.inr hy))), fun _ => ⟨fun z => absurd hy (Int32.not_lt.mpr z), fun _ => bad (Or.inr (rng2_no (by omega) (by omega) (Or.inr hy)))⟩⟩
  subst e; subst e2; subst e3
  have hso : s ≠ o := fun z => h (by rw [z])
  have hq := q1 s o g k hs rfl ho rfl g1 g2 rfl hso h2 rfl
  unfold sBl at hq
  generalize hP : blP m s o g k = P at hq
  refine ⟨fun z => absurd z (nI_pos (by omega)), fun _ => ⟨fun _ => ?_, fun z => absurd (nI_le h2 (by omega)) z⟩⟩
  refine hX _ _ _ _ _ _ _ ?_
  have inn : ∀ N, 1 ≤ N → N ≤ 18 → ∀ r a W, a + r = 10 → N ≤ a + 9 → W = σ → (∀ b, bl1 P N r = some b → Q (.inl (some (.int (nI (10 * b + (N - b)))))) sh_9 σ) → (bl1 P N r = none → ∀ W, W = σ → X 169 [some (.ref 0), some (.int (nI s)), some (.int (nI o)), some (.int (nI g)), some (.int (nI k)), some (.int (nI N)), none, none, none] [] sh_9 W 3 18) → X 63 [some (.ref 0), some (.int (nI s)), some (.int (nI o)), some (.int (nI g)), some (.int (nI k)), some (.int (nI N)), some (.int (nI a)), none, none] [] sh_9 W 3 18 := by
    intro N hN1 hN2 r
    induction r with
    | zero =>
      intro a W ha hNa hW f1 f0
      refine hX _ _ _ _ _ _ _ ?_
      refine b_gt rfl (show sMin (nI 9) (nI N) = nI (min 9 N) from sMin_nI (by omega) (by omega)) (by omega) (by omega) (fun _ => f0 rfl W hW) (fun h => by omega)
    | succ r ih =>
      intro a W ha hNa hW f1 f0
      by_cases hc : a ≤ N
      · have hd := bl1_s (P := P) (n := N) (k := r) (a := a) (by omega) hc hNa
        have eb : nI N - nI a = nI (N - a) := nI_sub hc
        have no : ¬ P a (N - a) = true → ∀ W, W = σ → X 163 [some (.ref 0), some (.int (nI s)), some (.int (nI o)), some (.int (nI g)), some (.int (nI k)), some (.int (nI N)), some (.int (nI a)), none, none] [] sh_9 W 3 18 := by
          intro hp W hW
          rw [if_neg hp] at hd
          refine hX _ _ _ _ _ _ _ ?_
          have h9 := ih (a + 1) W (by omega) (by omega) hW (fun b hb => f1 b (by rw [hd]; exact hb)) (fun hb => f0 (by rw [hd]; exact hb))
          rw [← nI_1 a] at h9
          exact h9
        refine hX _ _ _ _ _ _ _ ?_
        refine b_gt rfl (show sMin (nI 9) (nI N) = nI (min 9 N) from sMin_nI (by omega) (by omega)) (by omega) (by omega) (fun h => by omega) (fun _ => ?_)
        refine c_loadOf (by omega) (qs hW hR) ?_
        refine c_loadOf (by omega) (qs (qn hW) hR) ?_
        refine c_mixOf (by omega) g1 (by omega) (qs (qn (qn hW)) hR) ?_
        refine c_mixOf (by omega) g1 (by omega) (qs (qn (qn (qn hW))) hR) ?_
        have hW4 := qn (qn (qn (qn hW)))
        refine ⟨fun h => no ?_ _ hW4, fun h => ?_⟩
        · have h : nI a * sLoad m s + (nI N - nI a) * sLoad m o ≤ 0 := h
          rw [eb] at h
          rw [← hP, blP_iff]
          exact fun z => Int32.not_le.mpr z.1 h
        · have h : ¬ nI a * sLoad m s + (nI N - nI a) * sLoad m o ≤ 0 := h
          rw [eb] at h
          refine ⟨fun h3 => no ?_ _ hW4, fun h3 => ?_⟩
          · have h3 : nI 100 * (nI a * m (22 + 9 * s + g) + (nI N - nI a) * m (22 + 9 * o + g)) < nI k * (nI a * sLoad m s + (nI N - nI a) * sLoad m o) := h3
            rw [eb] at h3
            rw [← hP, blP_iff]
            exact fun z => Int32.not_lt.mpr z.2 h3
          · have h3 : ¬ nI 100 * (nI a * m (22 + 9 * s + g) + (nI N - nI a) * m (22 + 9 * o + g)) < nI k * (nI a * sLoad m s + (nI N - nI a) * sLoad m o) := h3
            rw [eb] at h3
            have hp : P a (N - a) = true := by
              rw [← hP, blP_iff]
              exact ⟨Int32.not_le.mp h, Int32.not_lt.mp h3⟩
            rw [if_pos hp] at hd
            have hr := f1 a hd
            have er : nI (10 * a + (N - a)) = nI 10 * nI a + nI N - nI a := by
              rw [nI_mul, nI_add, nI_sub (by omega)]
              congr 1
              omega
            exact qw (Q := Q) hW4 (qi er hr)
      · refine hX _ _ _ _ _ _ _ ?_
        refine b_gt rfl (show sMin (nI 9) (nI N) = nI (min 9 N) from sMin_nI (by omega) (by omega)) (by omega) (by omega) (fun _ => f0 (bl1_hi _ (by omega) (by omega)) W hW) (fun h => by omega)
  have out : ∀ r N W, N + r = 19 → 1 ≤ N → W = σ → Q (.inl (some (.int (bl2 P r)))) sh_9 σ → X 45 [some (.ref 0), some (.int (nI s)), some (.int (nI o)), some (.int (nI g)), some (.int (nI k)), some (.int (nI N)), none, none, none] [] sh_9 W 3 18 := by
    intro r
    induction r with
    | zero =>
      intro N W hN h1 hW hq
      refine hX _ _ _ _ _ _ _ ?_
      refine b_gt rfl (b := 18) rfl (by omega) (by omega) (fun _ => ?_) (fun h => by omega)
      refine hX _ _ _ _ _ _ _ ?_
      exact qw (Q := Q) hW hq
    | succ r ih =>
      intro N W hN h1 hW hq
      have hd : bl2 P (r + 1) = (match bl1 P (18 - r) 10 with | some a => nI (10 * a + (18 - r - a)) | none => bl2 P r) := rfl
      rw [show 18 - r = N by omega] at hd
      rw [hd] at hq
      refine hX _ _ _ _ _ _ _ ?_
      refine b_gt rfl (b := 18) rfl (by omega) (by omega) (fun h => by omega) (fun _ => ?_)
      have e1 : cMx (nI 0) (nI N - nI 9) = nI (N - 9) := by
        by_cases hc : 9 ≤ N
        · rw [nI_sub hc, cMx_nI (by omega) (by omega), Nat.zero_max]
        · rw [nI_mn (show N ≤ 9 by omega)]
          unfold cMx
          rw [if_neg, show N - 9 = 0 by omega]
          intro z
          exact nI_ng (9 - N) (by omega) (by omega) (Int32.le_of_lt z)
      have h9 := inn N h1 (by omega) (10 - (N - 9)) (N - 9) W (by omega) (by omega) hW (fun b hb => by
        rw [← bl1_lo (N - 9) (Nat.le_refl _) (by omega)] at hb
        rw [hb] at hq
        exact hq) (fun hb W hW => by
        rw [← bl1_lo (N - 9) (Nat.le_refl _) (by omega)] at hb
        rw [hb] at hq
        refine hX _ _ _ _ _ _ _ ?_
        have h8 := ih (N + 1) W (by omega) (by omega) hW hq
        rw [← nI_1 N] at h8
        exact h8)
      rw [← e1] at h9
      exact h9
  exact out 18 1 σ rfl (Nat.le_refl _) rfl hq
end CBL
section MBL
variable {d : Nat} {σ : mSg} {Q : mPst} {n nc ns nd : Nat}
theorem g_blend {p w x y : Int32} (hB : BD (σ 1) n nc ns nd) (q1 : ∀ s o g k, s < n → p = nI s → o < n → w = nI o → 1 ≤ g → g ≤ 6 → x = nI g → s ≠ o → k ≤ 100 → y = nI k → ∀ σ', MX σ (σ 1) (nI 0) σ' → Q (.inl (some (.int (sBl (σ 1) s o g k)))) sh_10 σ') (q0 : ¬ ((∃ s, s < n ∧ p = nI s) ∧ (∃ s, s < n ∧ w = nI s) ∧ ∃ k, 1 ≤ k ∧ k ≤ 6 ∧ x = nI k) → ∀ σ', MX σ (σ 1) (nI 1) σ' → Q (.inl (some (.int (nI 0)))) sh_10 σ') (q2 : ((∃ s, s < n ∧ p = nI s) ∧ (∃ s, s < n ∧ w = nI s) ∧ ∃ k, 1 ≤ k ∧ k ≤ 6 ∧ x = nI k) → (p = w ∨ ¬ ∃ k, 0 ≤ k ∧ k ≤ 100 ∧ y = nI k) → ∀ σ', MX σ (σ 1) (nI 2) σ' → Q (.inl (some (.int (nI 0)))) sh_10 σ') : mD (d + 3) 186 [.ref 0, .int p, .int w, .int x, .int y] sh_10 σ Q := by
  have hn := hB.1.2
  refine ⟨rfl, fun X hX => ?_⟩
  have bad : ¬ ((∃ s, s < n ∧ p = nI s) ∧ (∃ s, s < n ∧ w = nI s) ∧ ∃ k, 1 ≤ k ∧ k ≤ 6 ∧ x = nI k) → X 24 [some (.ref 0), some (.int p), some (.int w), some (.int x), some (.int y), none, none, none, none] [.ref 0] sh_10 σ 0 0 := by
    intro h
    refine hX _ _ _ _ _ _ _ ?_
    refine hX _ _ _ _ _ _ _ ?_
    refine ⟨fun z => absurd (show nI 1 ≤ 0 from z) (by decide +kernel), fun _ => ?_⟩
    exact q0 h _ MX.th
  refine hX _ _ _ _ _ _ _ ?_
  refine g_isStreet (fun h1 => ?_) (fun h1 => ?_)
  · rw [hB.1.1, sIn_iff (by omega)] at h1
    refine ⟨fun z => absurd z (by decide +kernel), fun _ => ?_⟩
    refine g_isStreet (fun h2 => ?_) (fun h2 => ?_)
    · rw [hB.1.1, sIn_iff (by omega)] at h2
      refine ⟨fun z => absurd z (by decide +kernel), fun _ => ?_⟩
      refine g_isGrain (fun h3 => ?_) (fun h3 => ?_)
      · rw [sIn2_iff (by omega) (by omega)] at h3
        refine ⟨fun _ => ?_, fun z => absurd z (by decide +kernel)⟩
        have bad2 : (p = w ∨ ¬ ∃ k, 0 ≤ k ∧ k ≤ 100 ∧ y = nI k) → X 44 [some (.ref 0), some (.int p), some (.int w), some (.int x), some (.int y), none, none, none, none] [.ref 0] sh_10 σ 0 0 := by
          intro h
          refine hX _ _ _ _ _ _ _ ?_
          refine hX _ _ _ _ _ _ _ ?_
          refine ⟨fun z => absurd (show nI 2 ≤ 0 from z) (by decide +kernel), fun _ => ?_⟩
          exact q2 ⟨h1, h2, h3⟩ h _ MX.th
        refine hX _ _ _ _ _ _ _ ?_
        refine ⟨fun h => bad2 (Or.inl h), fun h => ?_⟩
        refine g_isIn (fun h4 => ?_) (fun h4 => ?_)
        · have h4 : sIn y (nI 0) (nI 100) := h4
          rw [sIn2_iff (by omega) (by omega)] at h4
          obtain ⟨s, hs, rfl⟩ := h1
          obtain ⟨o, ho, rfl⟩ := h2
          obtain ⟨g, g1, g2, rfl⟩ := h3
          obtain ⟨k, -, k2, rfl⟩ := h4
          have hso : s ≠ o := fun z => h (by rw [z])
          have hq := q1 s o g k hs rfl ho rfl g1 g2 rfl hso k2 rfl _ MX.th
          unfold sBl at hq
          generalize hP : blP (σ 1) s o g k = P at hq
          refine ⟨fun _ => ?_, fun z => absurd z (by decide +kernel)⟩
          refine hX _ _ _ _ _ _ _ ?_
          refine hX _ _ _ _ _ _ _ ?_
          refine ⟨fun _ => ?_, fun z => absurd (show nI 0 ≤ 0 from by decide +kernel) z⟩
          refine hX _ _ _ _ _ _ _ ?_
          have inn : ∀ N, 1 ≤ N → N ≤ 18 → ∀ r a, a + r = 10 → (∀ b, bl1 P N r = some b → Q (.inl (some (.int (nI (10 * b + (N - b)))))) sh_10 (mput σ 0 0 (nI 0))) → (bl1 P N r = none → X 171 [some (.ref 0), some (.int (nI s)), some (.int (nI o)), some (.int (nI g)), some (.int (nI k)), some (.int (nI N)), none, none, none] [] sh_10 (mput σ 0 0 (nI 0)) 0 0) → X 74 [some (.ref 0), some (.int (nI s)), some (.int (nI o)), some (.int (nI g)), some (.int (nI k)), some (.int (nI N)), some (.int (nI a)), none, none] [] sh_10 (mput σ 0 0 (nI 0)) 0 0 := by
            intro N hN1 hN2 r
            induction r with
            | zero =>
              intro a ha f1 f0
              refine hX _ _ _ _ _ _ _ ?_
              exact b_ge rfl (b := 10) rfl (by omega) (by omega) (fun _ => f0 rfl) (fun h => by omega)
            | succ r ih =>
              intro a ha f1 f0
              have no : bl1 P N (r + 1) = bl1 P N r → X 165 [some (.ref 0), some (.int (nI s)), some (.int (nI o)), some (.int (nI g)), some (.int (nI k)), some (.int (nI N)), some (.int (nI a)), none, none] [] sh_10 (mput σ 0 0 (nI 0)) 0 0 := by
                intro hd
                refine hX _ _ _ _ _ _ _ ?_
                have h9 := ih (a + 1) (by omega) (fun b hb => f1 b (by rw [hd]; exact hb)) (fun hb => f0 (by rw [hd]; exact hb))
                rw [← nI_1 a] at h9
                exact h9
              refine hX _ _ _ _ _ _ _ ?_
              refine b_ge rfl (b := 10) rfl (by omega) (by omega) (fun h => by omega) (fun _ => ?_)
              refine g_isIn (fun h5 => ?_) (fun h5 => ?_)
              · have h5 : sIn (nI N - nI a) (nI 0) (nI 9) := h5
                refine ⟨fun _ => ?_, fun z => absurd z (by decide +kernel)⟩
                have hc : a ≤ N := by
                  refine Classical.byContradiction (fun z => ?_)
                  have := h5.1
                  rw [nI_mn (show N ≤ a by omega)] at this
                  exact nI_ng (a - N) (by omega) (by omega) this
                have eb : nI N - nI a = nI (N - a) := nI_sub hc
                have h6 : N - a ≤ 9 := by
                  have := h5.2
                  rw [eb, nI_leI (by omega) (by omega)] at this
                  exact this
                have hd := bl1_s (P := P) (n := N) (k := r) (a := a) (by omega) hc (by omega)
                refine hX _ _ _ _ _ _ _ ?_
                refine g_loadOf (σ := mput σ 0 0 (nI 0)) (by omega) ?_
                refine g_loadOf (σ := mput σ 0 0 (nI 0)) (by omega) ?_
                refine ⟨fun h => no ?_, fun h => ?_⟩
                · have h : nI a * sLoad (σ 1) s + (nI N - nI a) * sLoad (σ 1) o ≤ 0 := h
                  rw [eb] at h
                  rw [hd, if_neg]
                  rw [← hP, blP_iff]
                  exact fun z => Int32.not_le.mpr z.1 h
                · have h : ¬ nI a * sLoad (σ 1) s + (nI N - nI a) * sLoad (σ 1) o ≤ 0 := h
                  rw [eb] at h
                  refine g_mixOf (σ := mput σ 0 0 (nI 0)) (by omega) g1 (by omega) ?_
                  refine g_mixOf (σ := mput σ 0 0 (nI 0)) (by omega) g1 (by omega) ?_
                  refine ⟨fun h3 => no ?_, fun h3 => ?_⟩
                  · have h3 : nI 100 * (nI a * σ 1 (22 + 9 * s + g) + (nI N - nI a) * σ 1 (22 + 9 * o + g)) < nI k * (nI a * sLoad (σ 1) s + (nI N - nI a) * sLoad (σ 1) o) := h3
                    rw [eb] at h3
                    rw [hd, if_neg]
                    rw [← hP, blP_iff]
                    exact fun z => Int32.not_lt.mpr z.2 h3
                  · have h3 : ¬ nI 100 * (nI a * σ 1 (22 + 9 * s + g) + (nI N - nI a) * σ 1 (22 + 9 * o + g)) < nI k * (nI a * sLoad (σ 1) s + (nI N - nI a) * sLoad (σ 1) o) := h3
                    rw [eb] at h3
                    have hp : P a (N - a) = true := by
                      rw [← hP, blP_iff]
                      exact ⟨Int32.not_le.mp h, Int32.not_lt.mp h3⟩
                    rw [if_pos hp] at hd
                    have hr := f1 a hd
                    have er : nI (10 * a + (N - a)) = nI 10 * nI a + (nI N - nI a) := by rw [eb, nI_mul, nI_add]
                    exact qi er hr
              · have h5 : ¬ sIn (nI N - nI a) (nI 0) (nI 9) := h5
                refine ⟨fun z => absurd rfl z, fun _ => no ?_⟩
                refine bl1_x (a := a) (by omega) ?_
                refine Classical.byContradiction (fun z => h5 ?_)
                rw [nI_sub (show a ≤ N by omega)]
                exact ⟨nI_pos' (by omega), nI_le (by omega) (by omega)⟩
          have out : ∀ r N, N + r = 19 → 1 ≤ N → Q (.inl (some (.int (bl2 P r)))) sh_10 (mput σ 0 0 (nI 0)) → X 64 [some (.ref 0), some (.int (nI s)), some (.int (nI o)), some (.int (nI g)), some (.int (nI k)), some (.int (nI N)), none, none, none] [] sh_10 (mput σ 0 0 (nI 0)) 0 0 := by
            intro r
            induction r with
            | zero =>
              intro N hN h1 hq
              refine hX _ _ _ _ _ _ _ ?_
              refine b_ge rfl (b := 19) rfl (by omega) (by omega) (fun _ => ?_) (fun h => by omega)
              refine hX _ _ _ _ _ _ _ ?_
              exact hq
            | succ r ih =>
              intro N hN h1 hq
              have hd : bl2 P (r + 1) = (match bl1 P (18 - r) 10 with | some a => nI (10 * a + (18 - r - a)) | none => bl2 P r) := rfl
              rw [show 18 - r = N by omega] at hd
              rw [hd] at hq
              refine hX _ _ _ _ _ _ _ ?_
              refine b_ge rfl (b := 19) rfl (by omega) (by omega) (fun h => by omega) (fun _ => ?_)
              refine inn N h1 (by omega) 10 0 rfl (fun b hb => by rw [hb] at hq; exact hq) (fun hb => ?_)
              rw [hb] at hq
              refine hX _ _ _ _ _ _ _ ?_
              have h8 := ih (N + 1) (by omega) (by omega) hq
              rw [← nI_1 N] at h8
              exact h8
          exact out 18 1 rfl (Nat.le_refl _) hq
        · have h4 : ¬ sIn y (nI 0) (nI 100) := h4
          rw [sIn2_iff (by omega) (by omega)] at h4
          exact ⟨fun z => absurd rfl z, fun _ => bad2 (Or.inr h4)⟩
      · rw [sIn2_iff (by omega) (by omega)] at h3
        exact ⟨fun z => absurd rfl z, fun _ => bad (fun z => h3 z.2.2)⟩
    · rw [hB.1.1, sIn_iff (by omega)] at h2
      exact ⟨fun _ => bad (fun z => h2 z.2.1), fun z => absurd rfl z⟩
  · rw [hB.1.1, sIn_iff (by omega)] at h1
    exact ⟨fun _ => bad (fun z => h1 z.1), fun z => absurd rfl z⟩
end MBL
