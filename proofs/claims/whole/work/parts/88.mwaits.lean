/-! THE MODEL: what waits in a set -/
section MWA
variable {d : Nat} {σ : mSg} {Q : mPst} {n nc ns nd : Nat}
theorem g_waitsOf {set : Int32} (hB : BD (σ 1) n nc ns nd) (hq : Q (.inl (some (.int (sWO (σ 1) set n)))) sh_10 σ) : mD (d + 2) 150 [.ref 0, .int set] sh_10 σ Q := by
  have hn := hB.1.2
  refine ⟨rfl, fun X hX => ?_⟩
  have loop : ∀ j k, n - k = j → k ≤ n → X 4 [some (.ref 0), some (.int set), some (.int (sWO (σ 1) set k)), some (.int (nI k))] [] sh_10 σ 0 0 := by
    intro j
    induction j with
    | zero =>
      intro k hj hk
      have ek : k = n := by omega
      rw [ek]
      refine hX _ _ _ _ _ _ _ ?_
      refine ⟨vp_in_nI (n := 3) (by omega) (by omega), ?_⟩
      refine b_ge rfl hB.1.1 (by omega) (by omega) (fun _ => ?_) (fun h => by omega)
      refine hX _ _ _ _ _ _ _ ?_
      exact hq
    | succ j ih =>
      intro k hj hk
      have h9 := ih (k + 1) (by omega) (by omega)
      refine hX _ _ _ _ _ _ _ ?_
      refine ⟨vp_in_nI (n := 3) (by omega) (by omega), ?_⟩
      refine b_ge rfl hB.1.1 (by omega) (by omega) (fun h => by omega) (fun _ => ?_)
      refine g_isOf (fun h => ?_) (fun h => ?_)
      · refine ⟨fun z => absurd z (by decide +kernel), fun _ => ?_⟩
        refine g_of (w := 2) (by omega) (by omega) ?_
        refine hX _ _ _ _ _ _ _ ?_
        rw [sWO, if_neg (fun z => absurd (z.symm.trans h) (by decide +kernel)), ← nI_1 k, show 22 + 9 * k = 20 + 9 * k + 2 by omega] at h9
        exact h9
      · refine ⟨fun _ => ?_, fun z => absurd rfl z⟩
        refine hX _ _ _ _ _ _ _ ?_
        refine hX _ _ _ _ _ _ _ ?_
        have h0 : sIs set (nI k) = 0 := by
          refine b_ext (fun i hi => ?_)
          have hb : bt (sIs set (nI k)) i = (bt (set >>> (nI k &&& 31)) i && bt (nI 1) i) := b_and _ _ i
          by_cases e0 : i = 0
          · subst e0
            cases hx : bt (sIs set (nI k)) 0 with
            | false => rfl
            | true =>
              refine absurd (b_ext (fun i hi => ?_)) h
              have hb2 : bt (sIs set (nI k)) i = (bt (set >>> (nI k &&& 31)) i && bt (nI 1) i) := b_and _ _ i
              by_cases e1 : i = 0
              · subst e1; rw [hx]; decide +kernel
              · have : ∀ i, i < 32 → i ≠ 0 → bt (nI 1) i = false := by decide +kernel
                rw [hb2, this i hi e1, Bool.and_false]
          · have : ∀ i, i < 32 → i ≠ 0 → bt (nI 1) i = false := by decide +kernel
            rw [hb, this i hi e0, Bool.and_false, b_0]
        rw [sWO, if_pos h0, ← nI_1 k, show sWO (σ 1) set k = sWO (σ 1) set k + nI 0 from (Int32.add_zero _).symm] at h9
        exact h9
  refine hX _ _ _ _ _ _ _ ?_
  exact loop _ 0 rfl (Nat.zero_le _)
end MWA
