/-! THE MODEL: more of its row -/
section CM2
variable {d : Nat} {σ : mSg} {sh : List mSh} {Q : mPst}
theorem g_isGrain {g : Int32} (q1 : sIn g (nI 1) (nI 6) → Q (.inl (some (.int (nI 1)))) sh σ) (q0 : ¬ sIn g (nI 1) (nI 6) → Q (.inl (some (.int (nI 0)))) sh σ) : mD (d + 2) 93 [.int g] sh σ Q := by
  refine ⟨rfl, fun X hX => ?_⟩
  refine hX _ _ _ _ _ _ _ ?_
  exact g_isIn (fun h => ⟨Or.inr rfl, q1 h⟩) (fun h => ⟨Or.inl rfl, q0 h⟩)
theorem g_isStreet {s : Int32} (q1 : sIn s (nI 0) (σ 1 3 - nI 1) → Q (.inl (some (.int (nI 1)))) sh_10 σ) (q0 : ¬ sIn s (nI 0) (σ 1 3 - nI 1) → Q (.inl (some (.int (nI 0)))) sh_10 σ) : mD (d + 2) 90 [.ref 0, .int s] sh_10 σ Q := by
  refine ⟨rfl, fun X hX => ?_⟩
  refine hX _ _ _ _ _ _ _ ?_
  refine ⟨vp_in_nI (n := 3) (by omega) (by omega), ?_⟩
  exact g_isIn (fun h => ⟨Or.inr rfl, q1 h⟩) (fun h => ⟨Or.inl rfl, q0 h⟩)
theorem g_isCart {s : Int32} (q1 : sIn s (nI 0) (σ 1 4 - nI 1) → Q (.inl (some (.int (nI 1)))) sh_10 σ) (q0 : ¬ sIn s (nI 0) (σ 1 4 - nI 1) → Q (.inl (some (.int (nI 0)))) sh_10 σ) : mD (d + 2) 91 [.ref 0, .int s] sh_10 σ Q := by
  refine ⟨rfl, fun X hX => ?_⟩
  refine hX _ _ _ _ _ _ _ ?_
  refine ⟨vp_in_nI (n := 4) (by omega) (by omega), ?_⟩
  exact g_isIn (fun h => ⟨Or.inr rfl, q1 h⟩) (fun h => ⟨Or.inl rfl, q0 h⟩)
theorem g_isDeal {s : Int32} (q1 : sIn s (nI 0) (σ 1 6 - nI 1) → Q (.inl (some (.int (nI 1)))) sh_10 σ) (q0 : ¬ sIn s (nI 0) (σ 1 6 - nI 1) → Q (.inl (some (.int (nI 0)))) sh_10 σ) : mD (d + 2) 92 [.ref 0, .int s] sh_10 σ Q := by
  refine ⟨rfl, fun X hX => ?_⟩
  refine hX _ _ _ _ _ _ _ ?_
  refine ⟨vp_in_nI (n := 6) (by omega) (by omega), ?_⟩
  exact g_isIn (fun h => ⟨Or.inr rfl, q1 h⟩) (fun h => ⟨Or.inl rfl, q0 h⟩)
theorem g_isOpen {k : Nat} (hk : k < 6) (q1 : sOpen (σ 1) k → Q (.inl (some (.int (nI 1)))) sh_10 σ) (q0 : ¬ sOpen (σ 1) k → Q (.inl (some (.int (nI 0)))) sh_10 σ) : mD (d + 2) 94 [.ref 0, .int (nI k)] sh_10 σ Q := by
  refine ⟨rfl, fun X hX => ?_⟩
  refine hX _ _ _ _ _ _ _ ?_
  refine g_ofDeal (w := 4) hk (by omega) ?_
  refine ⟨fun h => ?_, fun h => ?_⟩
  · refine hX _ _ _ _ _ _ _ ?_
    refine hX _ _ _ _ _ _ _ ?_
    exact ⟨Or.inl rfl, q0 h⟩
  · refine hX _ _ _ _ _ _ _ ?_
    exact ⟨Or.inr rfl, q1 h⟩
theorem g_thrown (hq : Q (.inl (some (.int (σ 0 0)))) sh_10 σ) : mD (d + 1) 78 [.ref 0] sh_10 σ Q := by
  refine ⟨rfl, fun X hX => ?_⟩
  refine hX _ _ _ _ _ _ _ ?_
  exact hq
theorem g_paysOf {k : Nat} (hk : k < 6) (hq : Q (.inl (some (.int (σ 1 (93 + 5 * k + 2) * σ 1 (93 + 5 * k + 3))))) sh_10 σ) : mD (d + 2) 180 [.ref 0, .int (nI k)] sh_10 σ Q := by
  refine ⟨rfl, fun X hX => ?_⟩
  refine hX _ _ _ _ _ _ _ ?_
  refine g_ofDeal (w := 2) hk (by omega) ?_
  refine g_ofDeal (w := 3) hk (by omega) ?_
  exact hq
end CM2
