/-! THE CLASS: rows of the log, streets alike -/
/-- rows of a street among the latest so many -/
def sRo (m : Nat → Int32) (s : Int32) : Nat → Int32
  | 0 => nI 0
  | k + 1 => if m (123 + 5 * k + 3) = s then sRo m s k + nI 1 else sRo m s k
section CL2
variable {d : Nat} {σ : mSg} {m : Nat → Int32} {Q : mPst}
theorem c_rowsOf {s : Int32} {ls : Nat} (hl : m 12 = nI ls) (hls : ls ≤ 60) (hR : RLg σ m) (hq : Q (.inl (some (.int (sRo m s ls)))) sh_3 σ) : mD (d + 2) 267 [.ref 0, .int s] sh_3 σ Q := by
  have e3 : σ 0 1 = nI ls := hR.1.trans hl
  refine ⟨rfl, fun X hX => ?_⟩
  have loop : ∀ j k, k + j = ls → X 4 [some (.ref 0), some (.int s), some (.int (sRo m s k)), some (.int (nI k))] [] sh_3 σ 0 0 := by
    intro j
    induction j with
    | zero =>
      intro k hk
      refine hX _ _ _ _ _ _ _ ?_
      refine ⟨fun h => ?_, fun h => ?_⟩
      · refine hX _ _ _ _ _ _ _ ?_
        have e : k = ls := by omega
        subst e
        exact hq
      · have h : ¬ σ 0 1 ≤ nI k := h
        rw [e3] at h
        exact absurd (nI_le (by omega) (by omega)) h
    | succ j ih =>
      intro k hk
      refine hX _ _ _ _ _ _ _ ?_
      refine ⟨fun h => ?_, fun h => ?_⟩
      · have h : σ 0 1 ≤ nI k := h
        rw [e3] at h
        exact absurd h (nI_ge (by omega) (by omega))
      · refine c_logCell (w := 3) (by omega) hl hls hR (fun k2 hk2 e2 => ?_) (fun hno => absurd ⟨k, by omega, rfl⟩ hno)
        have e4 : k2 = k := ((nI_eq (by omega) (by omega)).mp e2).symm
        subst e4
        have h9 := ih (k2 + 1) (by omega)
        rw [sRo, ← nI_1 k2] at h9
        refine ⟨fun h => ?_, fun h => ?_⟩
        · refine hX _ _ _ _ _ _ _ ?_
          have h : ¬ m (123 + 5 * k2 + 3) = s := h
          rw [if_neg h] at h9
          exact h9
        · refine hX _ _ _ _ _ _ _ ?_
          have h : m (123 + 5 * k2 + 3) = s := h
          rw [if_pos h] at h9
          exact h9
  refine hX _ _ _ _ _ _ _ ?_
  exact loop ls 0 (by omega)
/-- the latest day of a street: the first k with it, from k on -/
theorem c_latest {s r : Int32} {ls : Nat} (hl : m 12 = nI ls) (hls : ls ≤ 60) (hR : RLg σ m) (h1 : ∀ k, k < ls → m (123 + 5 * k + 3) = s → (∀ i, i < k → ¬ m (123 + 5 * i + 3) = s) → r = m (123 + 5 * k)) (h0 : (∀ i, i < ls → ¬ m (123 + 5 * i + 3) = s) → r = -(nI 1)) (hq : Q (.inl (some (.int r))) sh_3 σ) : mD (d + 2) 268 [.ref 0, .int s] sh_3 σ Q := by
  have e3 : σ 0 1 = nI ls := hR.1.trans hl
  refine ⟨rfl, fun X hX => ?_⟩
  have loop : ∀ j k, k + j = ls → (∀ i, i < k → ¬ m (123 + 5 * i + 3) = s) → X 2 [some (.ref 0), some (.int s), some (.int (nI k))] [] sh_3 σ 0 0 := by
    intro j
    induction j with
    | zero =>
      intro k hk hn
      refine hX _ _ _ _ _ _ _ ?_
      refine ⟨fun h => ?_, fun h => ?_⟩
      · refine hX _ _ _ _ _ _ _ ?_
        have e : k = ls := by omega
        subst e
        rw [h0 hn] at hq
        exact hq
      · have h : ¬ σ 0 1 ≤ nI k := h
        rw [e3] at h
        exact absurd (nI_le (by omega) (by omega)) h
    | succ j ih =>
      intro k hk hn
      refine hX _ _ _ _ _ _ _ ?_
      refine ⟨fun h => ?_, fun h => ?_⟩
      · have h : σ 0 1 ≤ nI k := h
        rw [e3] at h
        exact absurd h (nI_ge (by omega) (by omega))
      · refine c_logCell (w := 3) (by omega) hl hls hR (fun k2 hk2 e2 => ?_) (fun hno => absurd ⟨k, by omega, rfl⟩ hno)
        have e4 : k2 = k := ((nI_eq (by omega) (by omega)).mp e2).symm
        subst e4
        refine ⟨fun h => ?_, fun h => ?_⟩
        · refine hX _ _ _ _ _ _ _ ?_
          have h : ¬ m (123 + 5 * k2 + 3) = s := h
          have h9 := ih (k2 + 1) (by omega) (fun i hi => by
            by_cases e : i = k2
            · subst e; exact h
            · exact hn i (by omega))
          rw [← nI_1] at h9
          exact h9
        · have h : m (123 + 5 * k2 + 3) = s := h
          refine c_logCell (w := 0) (by omega) hl hls hR (fun k3 hk3 e3 => ?_) (fun hno => absurd ⟨k2, by omega, rfl⟩ hno)
          have e5 : k3 = k2 := ((nI_eq (by omega) (by omega)).mp e3).symm
          subst e5
          rw [h1 k3 hk3 h hn] at hq
          exact hq
  refine hX _ _ _ _ _ _ _ ?_
  exact loop ls 0 (by omega) (fun i hi => absurd hi (by omega))
theorem c_isAlike {s o : Nat} (hs : s < 7) (ho : o < 7) (hR : RS σ m) (q1 : (∀ g, g < 6 → m (23 + 9 * s + g) = m (23 + 9 * o + g)) → Q (.inl (some (.int (nI 1)))) sh_7 σ) (q0 : (¬ ∀ g, g < 6 → m (23 + 9 * s + g) = m (23 + 9 * o + g)) → Q (.inl (some (.int (nI 0)))) sh_7 σ) : mD (d + 2) 308 [.ref 0, .int (nI s), .int (nI o)] sh_7 σ Q := by
  refine ⟨rfl, fun X hX => ?_⟩
  have loop : ∀ j k, k + j = 6 → (∀ g, g < k → m (23 + 9 * s + g) = m (23 + 9 * o + g)) → X 2 [some (.ref 0), some (.int (nI s)), some (.int (nI o)), some (.int (nI (k + 1)))] [] sh_7 σ 0 0 := by
    intro j
    induction j with
    | zero =>
      intro k hk hn
      refine hX _ _ _ _ _ _ _ ?_
      refine ⟨fun h => ?_, fun h => ?_⟩
      · refine hX _ _ _ _ _ _ _ ?_
        have e : k = 6 := by omega
        subst e
        exact ⟨Or.inr rfl, q1 hn⟩
      · exact absurd (nI_lt (show 6 < k + 1 by omega) (by omega)) h
    | succ j ih =>
      intro k hk hn
      refine hX _ _ _ _ _ _ _ ?_
      refine ⟨fun h => absurd h (nI_nlt (show k + 1 ≤ 6 by omega) (by omega)), fun h => ?_⟩
      refine c_mixOf hs (by omega) (show k + 1 < 7 by omega) hR ?_
      refine c_mixOf ho (by omega) (show k + 1 < 7 by omega) hR ?_
      refine ⟨fun h => ?_, fun h => ?_⟩
      · refine hX _ _ _ _ _ _ _ ?_
        have h : m (22 + 9 * s + (k + 1)) = m (22 + 9 * o + (k + 1)) := h
        have h9 := ih (k + 1) (by omega) (fun g hg => by
          by_cases e : g = k
          · subst e
            rw [show 23 + 9 * s + g = 22 + 9 * s + (g + 1) by omega, show 23 + 9 * o + g = 22 + 9 * o + (g + 1) by omega]; exact h
          · exact hn g (by omega))
        rw [← nI_1 (k + 1)] at h9
        exact h9
      · have h : ¬ m (22 + 9 * s + (k + 1)) = m (22 + 9 * o + (k + 1)) := h
        refine ⟨Or.inl rfl, q0 (fun z => h ?_)⟩
        have := z k (by omega)
        rw [show 23 + 9 * s + k = 22 + 9 * s + (k + 1) by omega, show 23 + 9 * o + k = 22 + 9 * o + (k + 1) by omega] at this
        exact this
  refine hX _ _ _ _ _ _ _ ?_
  exact loop 6 0 (by omega) (fun g hg => absurd hg (by omega))
end CL2
