/-! THE CLASS: State, more loops -/
/-- loads go into the heap: of so many grains -/
def sFe (m : Nat → Int32) (s : Nat) (n : Int32) : Nat → (Nat → Int32)
  | 0 => upd m (22 + 9 * s) (m (22 + 9 * s) - n)
  | k + 1 => upd (sFe m s n k) (14 + k) (if nI 9999 < sFe m s n k (14 + k) + n * sFe m s n k (23 + 9 * s + k) then nI 9999 else sFe m s n k (14 + k) + n * sFe m s n k (23 + 9 * s + k))
def sReach (m : Nat → Int32) (c s : Nat) : Prop := nI 2 * sWay m (some s) none ≤ m (84 + 2 * c)
section CSM
variable {d : Nat} {σ : mSg} {m : Nat → Int32} {Q : mPst}
theorem c_loadOf {s : Nat} (hs : s < 7) (hR : RS σ m) (hq : Q (.inl (some (.int (sLoad m s)))) sh_7 σ) : mD (d + 1) 307 [.ref 0, .int (nI s)] sh_7 σ Q := by
  have e6 : nI s * nI 6 = nI (6 * s) := by rw [nI_mul, Nat.mul_comm]
  have e7 : (nI s + nI 1) * nI 6 = nI (6 * s + 6) := by rw [nI_add, nI_mul]; congr 1; omega
  refine ⟨rfl, fun X hX => ?_⟩
  have loop : ∀ j k, k + j = 6 → X 7 [some (.ref 0), some (.int (nI s)), some (.int (sLd m s k)), some (.int (nI (6 * s + k)))] [] sh_7 σ 0 0 := by
    intro j
    induction j with
    | zero =>
      intro k hk
      have e : k = 6 := by omega
      subst e
      refine hX _ _ _ _ _ _ _ ?_
      refine ⟨fun h => ?_, fun h => ?_⟩
      · refine hX _ _ _ _ _ _ _ ?_
        exact hq
      · have h : ¬ (nI s + nI 1) * nI 6 ≤ nI (6 * s + 6) := h
        rw [e7] at h
        exact absurd (Int32.le_refl _) h
    | succ j ih =>
      intro k hk
      refine hX _ _ _ _ _ _ _ ?_
      refine ⟨fun h => ?_, fun h => ?_⟩
      · have h : (nI s + nI 1) * nI 6 ≤ nI (6 * s + k) := h
        rw [e7] at h
        exact absurd h (nI_ge (by omega) (by omega))
      · refine ⟨vp_in_nI (by omega) (by omega), ?_⟩
        have e1 : σ 2 (nI (6 * s + k)).toNatClampNeg = m (23 + 9 * s + k) := by rw [nI_clamp (by omega)]; exact hR.get (rq2 s hs k (by omega))
        have h9 := ih (k + 1) (by omega)
        rw [sLd, ← e1, ← Nat.add_assoc, ← nI_1] at h9
        exact h9
  have h9 := loop 6 0 rfl
  refine hX _ _ _ _ _ _ _ ?_
  rw [Nat.add_zero, ← e6] at h9
  exact h9
theorem c_isReached {c s : Nat} (hc : c < 3) (hs : s < 7) (hR : RS σ m) (q1 : sReach m c s → Q (.inl (some (.int (nI 1)))) sh_7 σ) (q0 : ¬ sReach m c s → Q (.inl (some (.int (nI 0)))) sh_7 σ) : mD (d + 3) 314 [.ref 0, .int (nI c), .int (nI s)] sh_7 σ Q := by
  refine ⟨rfl, fun X hX => ?_⟩
  refine hX _ _ _ _ _ _ _ ?_
  refine c_distance (s := some s) (o := none) (fun k h => by cases h; exact hs) (fun k h => by cases h) hR ?_
  refine c_goesOf hc hR ?_
  refine ⟨fun h => ?_, fun h => ?_⟩
  · refine hX _ _ _ _ _ _ _ ?_
    refine hX _ _ _ _ _ _ _ ?_
    exact ⟨Or.inl rfl, q0 (Int32.not_le.mpr h)⟩
  · refine hX _ _ _ _ _ _ _ ?_
    exact ⟨Or.inr rfl, q1 (Int32.not_lt.mp h)⟩
theorem c_fetch {s : Nat} {n : Int32} (hs : s < 7) (hR : RS σ m) (hq : ∀ σ', RS σ' (sFe m s n 6) → Q (.inl none) sh_7 σ') : mD (d + 2) 315 [.ref 0, .int (nI s), .int n] sh_7 σ Q := by
  refine ⟨rfl, fun X hX => ?_⟩
  have loop : ∀ j k σ', k + j = 6 → RS σ' (sFe m s n k) → X 14 [some (.ref 0), some (.int (nI s)), some (.int n), some (.int (nI (k + 1)))] [] sh_7 σ' 0 0 := by
    intro j
    induction j with
    | zero =>
      intro k σ' hk hR'
      refine hX _ _ _ _ _ _ _ ?_
      refine ⟨fun h => ?_, fun h => ?_⟩
      · refine hX _ _ _ _ _ _ _ ?_
        have e : k = 6 := by omega
        subst e
        exact hq _ hR'
      · exact absurd (nI_lt (show 6 < k + 1 by omega) (by omega)) h
    | succ j ih =>
      intro k σ' hk hR'
      refine hX _ _ _ _ _ _ _ ?_
      refine ⟨fun h => absurd h (nI_nlt (show k + 1 ≤ 6 by omega) (by omega)), fun h => ?_⟩
      refine ⟨vp_in_nI (by omega) (by omega), ?_⟩
      refine c_mixOf hs (by omega) (show k + 1 < 7 by omega) hR' ?_
      refine ⟨vp_in_nI (by omega) (by omega), ?_⟩
      have e1 : σ' 6 (nI (k + 1)).toNatClampNeg = sFe m s n k (14 + k) := by
        rw [nI_clamp (by omega), show 14 + k = 13 + (k + 1) by omega]; exact hR'.get (rqh (k + 1) (by omega) (by omega))
      have hR2 := hR'.put (rqh (k + 1) (by omega) (by omega)) (if nI 9999 < sFe m s n k (14 + k) + n * sFe m s n k (23 + 9 * s + k) then nI 9999 else sFe m s n k (14 + k) + n * sFe m s n k (23 + 9 * s + k))
      rw [show 13 + (k + 1) = 14 + k by omega] at hR2
      have h9 := ih (k + 1) _ (by omega) hR2
      rw [show (22 + 9 * s + (k + 1)) = 23 + 9 * s + k by omega]
      rw [← nI_1 (k + 1), ← e1] at h9
      have e2 : (nI (k + 1)).toNatClampNeg = k + 1 := nI_clamp (by omega)
      rw [e2] at h9 ⊢
      exact h9
  refine hX _ _ _ _ _ _ _ ?_
  refine c_waitsOf hs hR ?_
  refine c_setWaits hs hR ?_
  intro σ' hR'
  exact loop 6 0 σ' rfl hR'
theorem c_waitingSet {n : Nat} (hn : n ≤ 7) (h3 : m 3 = nI n) (hR : RS σ m) (hq : Q (.inl (some (.int (sWS m n)))) sh_7 σ) : mD (d + 2) 310 [.ref 0] sh_7 σ Q := by
  have e3 : σ 0 7 = nI n := by rw [hR.get rf0.1, h3]
  refine ⟨rfl, fun X hX => ?_⟩
  have loop : ∀ j k, k + j = n → X 4 [some (.ref 0), some (.int (sWS m k)), some (.int (nI k))] [] sh_7 σ 0 0 := by
    intro j
    induction j with
    | zero =>
      intro k hk
      refine hX _ _ _ _ _ _ _ ?_
      refine ⟨fun h => ?_, fun h => ?_⟩
      · refine hX _ _ _ _ _ _ _ ?_
        have e : k = n := by omega
        subst e
        exact hq
      · have h : ¬ σ 0 7 ≤ nI k := h
        rw [e3] at h
        exact absurd (nI_le (by omega) (by omega)) h
    | succ j ih =>
      intro k hk
      refine hX _ _ _ _ _ _ _ ?_
      refine ⟨fun h => ?_, fun h => ?_⟩
      · have h : σ 0 7 ≤ nI k := h
        rw [e3] at h
        exact absurd h (nI_ge (by omega) (by omega))
      · refine c_waitsOf (by omega) hR ?_
        have h9 := ih (k + 1) (by omega)
        rw [sWS, ← nI_1] at h9
        refine ⟨fun h => ?_, fun h => ?_⟩
        · refine hX _ _ _ _ _ _ _ ?_
          have h : m (22 + 9 * k) ≤ nI 0 := h
          rw [if_neg (Int32.not_lt.mpr h)] at h9
          exact h9
        · refine hX _ _ _ _ _ _ _ ?_
          have h : ¬ m (22 + 9 * k) ≤ nI 0 := h
          rw [if_pos (Int32.not_le.mp h)] at h9
          exact h9
  refine hX _ _ _ _ _ _ _ ?_
  exact loop n 0 (by omega)
theorem c_waitsOfSet {n : Nat} {set : Int32} (hn : n ≤ 7) (h3 : m 3 = nI n) (hR : RS σ m) (hq : Q (.inl (some (.int (sWO m set n)))) sh_7 σ) : mD (d + 2) 311 [.ref 0, .int set] sh_7 σ Q := by
  have e3 : σ 0 7 = nI n := by rw [hR.get rf0.1, h3]
  refine ⟨rfl, fun X hX => ?_⟩
  have loop : ∀ j k, k + j = n → X 4 [some (.ref 0), some (.int set), some (.int (sWO m set k)), some (.int (nI k))] [] sh_7 σ 0 0 := by
    intro j
    induction j with
    | zero =>
      intro k hk
      refine hX _ _ _ _ _ _ _ ?_
      refine ⟨fun h => ?_, fun h => ?_⟩
      · refine hX _ _ _ _ _ _ _ ?_
        have e : k = n := by omega
        subst e
        exact hq
      · have h : ¬ σ 0 7 ≤ nI k := h
        rw [e3] at h
        exact absurd (nI_le (by omega) (by omega)) h
    | succ j ih =>
      intro k hk
      refine hX _ _ _ _ _ _ _ ?_
      refine ⟨fun h => ?_, fun h => ?_⟩
      · have h : σ 0 7 ≤ nI k := h
        rw [e3] at h
        exact absurd h (nI_ge (by omega) (by omega))
      · have h9 := ih (k + 1) (by omega)
        rw [sWO, ← nI_1] at h9
        refine ⟨fun h => ?_, fun h => ?_⟩
        · refine hX _ _ _ _ _ _ _ ?_
          have h : sIs set (nI k) = 0 := h
          rw [if_pos h] at h9
          exact h9
        · refine c_waitsOf (by omega) hR ?_
          refine hX _ _ _ _ _ _ _ ?_
          have h : ¬ sIs set (nI k) = 0 := h
          rw [if_neg h] at h9
          exact h9
  refine hX _ _ _ _ _ _ _ ?_
  exact loop n 0 (by omega)
theorem c_cutsOf {n : Nat} {set : Int32} (hn : n ≤ 4) (h5 : m 5 = nI n) (hR : RS σ m) (hq : Q (.inl (some (.int (sCut m set n)))) sh_7 σ) : mD (d + 1) 317 [.ref 0, .int set] sh_7 σ Q := by
  have e3 : σ 0 9 = nI n := by rw [hR.get rf0.2.2.1, h5]
  refine ⟨rfl, fun X hX => ?_⟩
  have loop : ∀ j k, k + j = n → X 4 [some (.ref 0), some (.int set), some (.int (sCut m set k)), some (.int (nI k))] [] sh_7 σ 0 0 := by
    intro j
    induction j with
    | zero =>
      intro k hk
      refine hX _ _ _ _ _ _ _ ?_
      refine ⟨fun h => ?_, fun h => ?_⟩
      · refine hX _ _ _ _ _ _ _ ?_
        have e : k = n := by omega
        subst e
        exact hq
      · have h : ¬ σ 0 9 ≤ nI k := h
        rw [e3] at h
        exact absurd (nI_le (by omega) (by omega)) h
    | succ j ih =>
      intro k hk
      refine hX _ _ _ _ _ _ _ ?_
      refine ⟨fun h => ?_, fun h => ?_⟩
      · have h : σ 0 9 ≤ nI k := h
        rw [e3] at h
        exact absurd h (nI_ge (by omega) (by omega))
      · have h9 := ih (k + 1) (by omega)
        rw [sCut, ← nI_1] at h9
        refine ⟨fun h => ?_, fun h => ?_⟩
        · refine hX _ _ _ _ _ _ _ ?_
          have h : sIs set (nI k) = 0 := h
          rw [if_pos h] at h9
          exact h9
        · refine ⟨vp_in_nI (by omega) (by omega), ?_⟩
          refine hX _ _ _ _ _ _ _ ?_
          have h : ¬ sIs set (nI k) = 0 := h
          rw [if_neg h] at h9
          have e1 : σ 4 (nI k).toNatClampNeg = m (89 + k) := by rw [nI_clamp (by omega)]; exact hR.get (rq4 k (by omega))
          rw [← e1] at h9
          exact h9
  refine hX _ _ _ _ _ _ _ ?_
  exact loop n 0 (by omega)
end CSM
