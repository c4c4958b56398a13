/-! THE MODEL: its log -/
/-- the rows from place k on are moved by one row -/
def sShf (m : Nat → Int32) (k : Nat) : Nat → Int32 := fun i => if 123 + k ≤ i ∧ i < 423 then m (i - 5) else m i
theorem sShf_step {m : Nat → Int32} {k : Nat} (h : 5 ≤ k) (h2 : k < 300) : upd (sShf m (k + 1)) (123 + k) (sShf m (k + 1) (118 + k)) = sShf m k := by
  funext i
  unfold upd
  by_cases e : i = 123 + k
  · subst e
    rw [if_pos rfl]
    unfold sShf
    rw [if_neg (by omega), if_pos (by omega)]
    congr 1; omega
  · rw [if_neg e]
    unfold sShf
    by_cases e2 : 123 + k ≤ i ∧ i < 423
    · rw [if_pos (by omega), if_pos e2]
    · rw [if_neg (by omega), if_neg e2]
section CM6
variable {d : Nat} {σ : mSg} {f : Nat → Int32} {Q : mPst}
theorem sLog_of {m : Nat → Int32} {a b c e n : Int32} : upd (upd (upd (upd (upd (upd (sShf m 5) 123 a) 124 b) 125 c) 126 e) 127 n) 12 (sMin (nI 60) (m 12 + nI 1)) = sLog m a b c e n := by
  funext i
  unfold upd sLog sShf sMin
  repeat' split
  all_goals first | rfl | (exfalso; omega)
theorem g_logs {b c e n : Int32} (hq : Q (.inl none) sh_10 (mM σ (sLog f (f 10) b c e n))) : mD (d + 2) 136 [.ref 0, .int b, .int c, .int e, .int n] sh_10 (mM σ f) Q := by
  refine ⟨rfl, fun X hX => ?_⟩
  have loop : ∀ j k, k = j + 4 → k ≤ 299 → X 5 [some (.ref 0), some (.int b), some (.int c), some (.int e), some (.int n), some (.int (nI k))] [] sh_10 (mM σ (sShf f (k + 1))) 0 0 := by
    intro j
    induction j with
    | zero =>
      intro k hk hk2
      refine hX _ _ _ _ _ _ _ ?_
      refine ⟨fun h => ?_, fun h => absurd (nI_lt (show k < 5 by omega) (by omega)) h⟩
      have ek : k + 1 = 5 := by omega
      rw [ek]
      refine hX _ _ _ _ _ _ _ ?_
      refine ⟨vp_in_nI (n := 10) (by omega) (by omega), vp_in_nI (n := 123) (by omega) (by omega), vp_in_nI (n := 124) (by omega) (by omega), vp_in_nI (n := 125) (by omega) (by omega), vp_in_nI (n := 126) (by omega) (by omega), vp_in_nI (n := 127) (by omega) (by omega), vp_in_nI (n := 12) (by omega) (by omega), ?_⟩
      refine g_lesser ?_
      refine ⟨vp_in_nI (n := 12) (by omega) (by omega), ?_⟩
      rw [← sLog_of, ← mM_put, ← mM_put, ← mM_put, ← mM_put, ← mM_put, ← mM_put] at hq
      exact hq
    | succ j ih =>
      intro k hk hk2
      have e1 : nI 123 + nI k = nI (123 + k) := nI_add _ _
      have e2 : nI 123 + nI k - nI 5 = nI (118 + k) := by rw [e1, nI_sub (by omega)]; congr 1; omega
      refine hX _ _ _ _ _ _ _ ?_
      refine ⟨fun h => absurd h (nI_nlt (show 5 ≤ k by omega) (by omega)), fun h => ?_⟩
      refine ⟨vin e2 (by omega) (by omega), vin e1 (by omega) (by omega), ?_⟩
      have h9 := ih (k - 1) (by omega) (by omega)
      rw [show k - 1 + 1 = k by omega, ← sShf_step (by omega) (by omega), ← mM_put, ← nI_sub (show 1 ≤ k by omega), ← clN e1 (by omega), ← clN e2 (by omega)] at h9
      exact h9
  refine hX _ _ _ _ _ _ _ ?_
  have h9 := loop 295 299 rfl (by omega)
  have e9 : sShf f 300 = f := by
    funext i
    unfold sShf
    rw [if_neg (by omega)]
  rw [e9] at h9
  exact h9
end CM6
