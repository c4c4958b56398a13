/-! THE MODEL: loops over its row -/
section CM3
variable {d : Nat} {σ : mSg} {Q : mPst}
theorem g_loadOf {s : Nat} (hs : s < 7) (hq : Q (.inl (some (.int (sLoad (σ 1) s)))) sh_10 σ) : mD (d + 2) 130 [.ref 0, .int (nI s)] sh_10 σ Q := by
  refine ⟨rfl, fun X hX => ?_⟩
  have loop : ∀ j k, k + j = 6 → X 4 [some (.ref 0), some (.int (nI s)), some (.int (sLd (σ 1) s k)), some (.int (nI (k + 1)))] [] sh_10 σ 0 0 := by
    intro j
    induction j with
    | zero =>
      intro k hk
      refine hX _ _ _ _ _ _ _ ?_
      refine ⟨fun h => ?_, fun h => ?_⟩
      · refine hX _ _ _ _ _ _ _ ?_
        have e : k = 6 := by omega
        subst e
        exact hq
      · exact absurd (nI_lt (show 6 < k + 1 by omega) (by omega)) h
    | succ j ih =>
      intro k hk
      refine hX _ _ _ _ _ _ _ ?_
      refine ⟨fun h => absurd h (nI_nlt (show k + 1 ≤ 6 by omega) (by omega)), fun h => ?_⟩
      refine g_mixOf hs (by omega) (show k + 1 < 7 by omega) ?_
      have h9 := ih (k + 1) (by omega)
      rw [sLd, ← nI_1 (k + 1), show 23 + 9 * s + k = 22 + 9 * s + (k + 1) by omega] at h9
      exact h9
  refine hX _ _ _ _ _ _ _ ?_
  exact loop 6 0 rfl
theorem g_heapBetween {lo hi : Nat} (h1 : 1 ≤ lo) (h2 : hi ≤ 6) (h3 : lo ≤ 6) (hq : Q (.inl (some (.int (sHS (σ 1) lo (hi + 1 - lo))))) sh_10 σ) : mD (d + 2) 139 [.ref 0, .int (nI lo), .int (nI hi)] sh_10 σ Q := by
  refine ⟨rfl, fun X hX => ?_⟩
  have loop : ∀ n k, hi + 1 - (lo + k) = n → lo + k ≤ 7 → (k ≤ hi + 1 - lo) → X 5 [some (.ref 0), none, some (.int (nI hi)), some (.int (sHS (σ 1) lo k)), some (.int (nI (lo + k)))] [] sh_10 σ 0 0 := by
    intro n
    induction n with
    | zero =>
      intro k hn hk hk2
      refine hX _ _ _ _ _ _ _ ?_
      refine ⟨fun h => ?_, fun h => ?_⟩
      · refine hX _ _ _ _ _ _ _ ?_
        have e : k = hi + 1 - lo := by omega
        rw [← e] at hq
        exact hq
      · exact absurd (nI_lt (show hi < lo + k by omega) (by omega)) h
    | succ n ih =>
      intro k hn hk hk2
      refine hX _ _ _ _ _ _ _ ?_
      refine ⟨fun h => absurd h (nI_nlt (show lo + k ≤ hi by omega) (by omega)), fun h => ?_⟩
      refine g_heaped (by omega) (show lo + k < 7 by omega) ?_
      have h9 := ih (k + 1) (by omega) (by omega) (by omega)
      rw [sHS, ← Nat.add_assoc lo k 1, ← nI_1 (lo + k), Nat.add_assoc 13 lo k] at h9
      exact h9
  refine hX _ _ _ _ _ _ _ ?_
  exact loop _ 0 rfl (by omega) (by omega)
theorem g_hasFor {k lo hi : Nat} (hk : k < 6) (hlo : σ 1 (93 + 5 * k) = nI lo) (hhi : σ 1 (93 + 5 * k + 1) = nI hi) (h1 : 1 ≤ lo) (h2 : hi ≤ 6) (h3 : lo ≤ 6) (q1 : σ 1 (93 + 5 * k + 2) ≤ sHS (σ 1) lo (hi + 1 - lo) → Q (.inl (some (.int (nI 1)))) sh_10 σ) (q0 : ¬ σ 1 (93 + 5 * k + 2) ≤ sHS (σ 1) lo (hi + 1 - lo) → Q (.inl (some (.int (nI 0)))) sh_10 σ) : mD (d + 3) 140 [.ref 0, .int (nI k)] sh_10 σ Q := by
  refine ⟨rfl, fun X hX => ?_⟩
  refine hX _ _ _ _ _ _ _ ?_
  refine g_ofDeal (w := 0) hk (by omega) ?_
  refine g_ofDeal (w := 1) hk (by omega) ?_
  show mD (d + 2) 139 [.ref 0, .int (σ 1 (93 + 5 * k)), .int (σ 1 (93 + 5 * k + 1))] sh_10 σ _
  rw [hlo, hhi]
  refine g_heapBetween h1 h2 h3 ?_
  refine g_ofDeal (w := 2) hk (by omega) ?_
  refine ⟨fun h => ?_, fun h => ?_⟩
  · refine hX _ _ _ _ _ _ _ ?_
    refine hX _ _ _ _ _ _ _ ?_
    exact ⟨Or.inl rfl, q0 (fun z => Int32.not_le.mpr h z)⟩
  · refine hX _ _ _ _ _ _ _ ?_
    exact ⟨Or.inr rfl, q1 (Int32.not_lt.mp h)⟩
end CM3
