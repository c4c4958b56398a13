/-! THE MODEL: its row is written -/
/-- the model's world with another row -/
def mM (σ : mSg) (f : Nat → Int32) : mSg := fun b => if b = 1 then f else σ b
theorem mM_put {σ : mSg} {f : Nat → Int32} {k : Nat} {v : Int32} : mput (mM σ f) 1 k v = mM σ (upd f k v) := by
  funext b
  unfold mput mM
  by_cases h : b = 1
  · subst h; simp only [if_pos]
  · simp only [if_neg h]
theorem mM_self (σ : mSg) : mM σ (σ 1) = σ := by
  funext b
  unfold mM
  split
  · rename_i h; rw [h]
  · rfl
theorem mM_1 {σ : mSg} {f : Nat → Int32} : mM σ f 1 = f := rfl
section CM5
variable {d : Nat} {σ : mSg} {f : Nat → Int32} {Q : mPst}
theorem g_halves {g : Nat} (h1 : 1 ≤ g) (h2 : g < 7) (hq : Q (.inl none) sh_10 (mM σ (upd f (13 + g) (f (13 + g) / nI 2)))) : mD (d + 1) 142 [.ref 0, .int (nI g)] sh_10 (mM σ f) Q := by
  have e : nI 14 + nI g - nI 1 = nI (13 + g) := by rw [nI_add, nI_sub (by omega)]; congr 1; omega
  refine ⟨rfl, fun X hX => ?_⟩
  refine hX _ _ _ _ _ _ _ ?_
  refine ⟨vin e (by omega) (by omega), by decide +kernel, vin e (by omega) (by omega), ?_⟩
  rw [← clN e (by omega), ← mM_put] at hq
  exact hq
theorem g_draw {n : Int32} (hn : ¬ n = 0) (hq : Q (.inl (some (.int ((((nI 1103515245 * f 13 + nI 12345).toUInt32 >>> ((nI 16).toUInt32 &&& Int32.toUInt32 31)).toInt32 &&& nI 32767) - (((nI 1103515245 * f 13 + nI 12345).toUInt32 >>> ((nI 16).toUInt32 &&& Int32.toUInt32 31)).toInt32 &&& nI 32767) / n * n)))) sh_10 (mM σ (upd f 13 (nI 1103515245 * f 13 + nI 12345)))) : mD (d + 1) 135 [.ref 0, .int n] sh_10 (mM σ f) Q := by
  refine ⟨rfl, fun X hX => ?_⟩
  refine hX _ _ _ _ _ _ _ ?_
  refine ⟨vp_in_nI (n := 13) (by omega) (by omega), vp_in_nI (n := 13) (by omega) (by omega), vp_in_nI (n := 13) (by omega) (by omega), hn, ?_⟩
  rw [← mM_put] at hq
  exact hq
theorem g_unloads {s : Nat} {n : Int32} (hs : s < 7) (hq : Q (.inl none) sh_10 (mM σ (sFe f s n 6))) : mD (d + 2) 137 [.ref 0, .int (nI s), .int n] sh_10 (mM σ f) Q := by
  have e0 : nI 20 + nI 9 * nI s + nI 2 = nI (22 + 9 * s) := by rw [nI_mul, nI_add, nI_add]; congr 1; omega
  refine ⟨rfl, fun X hX => ?_⟩
  have loop : ∀ j k, k + j = 6 → X 20 [some (.ref 0), some (.int (nI s)), some (.int n), some (.int (nI (k + 1)))] [] sh_10 (mM σ (sFe f s n k)) 0 0 := by
    intro j
    induction j with
    | zero =>
      intro k hk
      refine hX _ _ _ _ _ _ _ ?_
      refine ⟨fun h => ?_, fun h => ?_⟩
      · refine hX _ _ _ _ _ _ _ ?_
        have e : k = 6 := by omega
        subst e
        exact hq
      · exact absurd (nI_lt (show 6 < k + 1 by omega) (by omega)) h
    | succ j ih =>
      intro k hk
      have e1 : nI 14 + nI (k + 1) - nI 1 = nI (14 + k) := by rw [nI_add, nI_sub (by omega)]; congr 1
      refine hX _ _ _ _ _ _ _ ?_
      refine ⟨fun h => absurd h (nI_nlt (show k + 1 ≤ 6 by omega) (by omega)), fun h => ?_⟩
      refine g_heaped (by omega) (show k + 1 < 7 by omega) ?_
      refine g_mixOf hs (by omega) (show k + 1 < 7 by omega) ?_
      refine g_lesser ?_
      refine ⟨vin e1 (by omega) (by omega), ?_⟩
      have h9 := ih (k + 1) (by omega)
      rw [sFe, ← mM_put, ← nI_1 (k + 1), ← clN e1 (by omega), clN e1 (by omega)] at h9
      rw [show 13 + (k + 1) = 14 + k by omega, show 22 + 9 * s + (k + 1) = 23 + 9 * s + k by omega]
      rw [← clN e1 (by omega)] at h9
      rw [← clN e1 (by omega)]
      exact h9
  refine hX _ _ _ _ _ _ _ ?_
  refine ⟨vin e0 (by omega) (by omega), vin e0 (by omega) (by omega), ?_⟩
  have h9 := loop 6 0 rfl
  rw [sFe, ← mM_put, ← clN e0 (by omega)] at h9
  exact h9
end CM5
