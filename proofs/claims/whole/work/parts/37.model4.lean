/-! THE MODEL: ways, draws -/
theorem sAbs_neg (x : Int32) : (if x < 0 then -x else x) = sAbs x := by
  unfold sAbs
  by_cases h : x < 0
  · rw [if_pos h, if_neg (Int32.not_le.mpr h), Int32.zero_sub]
  · rw [if_neg h, if_pos (Int32.not_lt.mp h)]
section CM4
variable {d : Nat} {σ : mSg} {Q : mPst}
theorem g_wayOf {s o : Option Nat} (hs : ∀ k, s = some k → k < 7) (ho : ∀ k, o = some k → k < 7) (hq : Q (.inl (some (.int (sWay (σ 1) s o)))) sh_10 σ) : mD (d + 2) 134 [.ref 0, .int (oN s), .int (oN o)] sh_10 σ Q := by
  refine ⟨rfl, fun X hX => ?_⟩
  have fin2 : ∀ a y : Int32, Q (.inl (some (.int (a + sAbs y)))) sh_10 σ → X 75 [none, none, none, none, some (.int y)] [.int a] sh_10 σ 0 0 := by
    intro a y h
    rw [← sAbs_neg] at h
    refine hX _ _ _ _ _ _ _ ?_
    refine ⟨fun hy => ?_, fun hy => ?_⟩
    · refine hX _ _ _ _ _ _ _ ?_
      refine hX _ _ _ _ _ _ _ ?_
      have hy : (0 : Int32) ≤ y := hy
      rw [if_neg (Int32.not_lt.mpr hy)] at h
      exact h
    · refine hX _ _ _ _ _ _ _ ?_
      have hy : ¬ (0 : Int32) ≤ y := hy
      rw [if_pos (Int32.not_le.mp hy)] at h
      exact h
  have fin1 : ∀ x a b : Int32, Q (.inl (some (.int (sAbs x + sAbs (a - b))))) sh_10 σ → X 62 [none, none, none, some (.int x), none] [.int b, .int a] sh_10 σ 0 0 := by
    intro x a b h
    rw [← sAbs_neg x] at h
    refine hX _ _ _ _ _ _ _ ?_
    refine ⟨fun hy => ?_, fun hy => ?_⟩
    · refine hX _ _ _ _ _ _ _ ?_
      have hy : (0 : Int32) ≤ x := hy
      rw [if_neg (Int32.not_lt.mpr hy)] at h
      exact fin2 _ _ h
    · have hy : ¬ (0 : Int32) ≤ x := hy
      rw [if_pos (Int32.not_le.mp hy)] at h
      exact fin2 _ _ h
  have midY : ∀ x a : Int32, Q (.inl (some (.int (sAbs x + sAbs (a - sY (σ 1) o))))) sh_10 σ → X 47 [some (.ref 0), none, some (.int (oN o)), some (.int x), none] [.int a] sh_10 σ 0 0 := by
    intro x a h
    refine hX _ _ _ _ _ _ _ ?_
    cases o with
    | none =>
      refine ⟨fun z => absurd rfl z, fun _ => ?_⟩
      exact fin1 _ _ _ h
    | some k =>
      have hk := ho k rfl
      refine ⟨fun _ => ?_, fun z => absurd z (oN_ne (by omega))⟩
      refine hX _ _ _ _ _ _ _ ?_
      refine g_of (w := 1) hk (by omega) ?_
      exact fin1 _ _ _ (by rw [show 20 + 9 * k + 1 = 21 + 9 * k by omega]; exact h)
  have mid30 : ∀ a b : Int32, Q (.inl (some (.int (sAbs (a - b) + sAbs (sY (σ 1) s - sY (σ 1) o))))) sh_10 σ → X 30 [some (.ref 0), some (.int (oN s)), some (.int (oN o)), none, none] [.int b, .int a] sh_10 σ 0 0 := by
    intro a b h
    refine hX _ _ _ _ _ _ _ ?_
    cases s with
    | none =>
      refine ⟨fun z => absurd rfl z, fun _ => ?_⟩
      exact midY _ _ h
    | some k =>
      have hk := hs k rfl
      refine ⟨fun _ => ?_, fun z => absurd z (oN_ne (by omega))⟩
      refine hX _ _ _ _ _ _ _ ?_
      refine g_of (w := 1) hk (by omega) ?_
      exact midY _ _ (by rw [show 20 + 9 * k + 1 = 21 + 9 * k by omega]; exact h)
  have midX : ∀ a : Int32, Q (.inl (some (.int (sAbs (a - sX (σ 1) o) + sAbs (sY (σ 1) s - sY (σ 1) o))))) sh_10 σ → X 15 [some (.ref 0), some (.int (oN s)), some (.int (oN o)), none, none] [.int a] sh_10 σ 0 0 := by
    intro a h
    refine hX _ _ _ _ _ _ _ ?_
    cases ho2 : o with
    | none =>
      rw [ho2] at h mid30
      refine ⟨fun z => absurd rfl z, fun _ => ?_⟩
      exact mid30 _ _ h
    | some k =>
      have hk := ho k ho2
      rw [ho2] at h mid30
      refine ⟨fun _ => ?_, fun z => absurd z (oN_ne (by omega))⟩
      refine hX _ _ _ _ _ _ _ ?_
      refine g_of (w := 0) hk (by omega) ?_
      exact mid30 _ _ h
  refine hX _ _ _ _ _ _ _ ?_
  cases hs2 : s with
  | none =>
    rw [hs2] at hq midX
    refine ⟨fun z => absurd rfl z, fun _ => ?_⟩
    exact midX _ hq
  | some k =>
    have hk := hs k hs2
    rw [hs2] at hq midX
    refine ⟨fun _ => ?_, fun z => absurd z (oN_ne (by omega))⟩
    refine hX _ _ _ _ _ _ _ ?_
    refine g_of (w := 0) hk (by omega) ?_
    exact midX _ hq
end CM4
