/-! THE MODEL: twins, the log, counts -/
theorem sRo_s {m : Nat → Int32} {s : Int32} {k : Nat} : sRo m s (k + 1) = if m (123 + 5 * k + 3) = s then sRo m s k + nI 1 else sRo m s k := rfl
section MY3
variable {d : Nat} {σ : mSg} {Q : mPst} {ls : List lLn} {n nc ns nd : Nat}
theorem g_twins (hB : BD (σ 1) n nc ns nd) (hq : ∀ σ', MX σ (σ 1) (nI 0) σ' → Q (.inl (some (.int (sTw (σ 1) n n)))) sh_10 σ') : mD (d + 2) 213 [.ref 0] sh_10 σ Q := by
  have hn := hB.1.2
  refine ⟨rfl, fun X hX => ?_⟩
  have loop : ∀ j a, n - a = j → a ≤ n → X 9 [some (.ref 0), some (.int (sTw (σ 1) n a)), some (.int (nI a)), none, none, none] [] sh_10 (mput σ 0 0 (nI 0)) 0 0 := by
    intro j
    induction j with
    | zero =>
      intro a hj ha
      have ek : a = n := by omega
      subst ek
      refine hX _ _ _ _ _ _ _ ?_
      refine ⟨vp_in_nI (n := 3) (by omega) (by omega), ?_⟩
      refine b_ge rfl hB.1.1 (by omega) (by omega) (fun _ => ?_) (fun h => by omega)
      refine hX _ _ _ _ _ _ _ ?_
      exact hq _ MX.th
    | succ j ih =>
      intro a hj ha
      have inner : ∀ r b, n - (a + 1) - b = r → b ≤ n - (a + 1) → X 23 [some (.ref 0), some (.int (sTwi (σ 1) a (sTw (σ 1) n a) b)), some (.int (nI a)), some (.int (nI (a + 1 + b))), none, none] [] sh_10 (mput σ 0 0 (nI 0)) 0 0 := by
        intro r
        induction r with
        | zero =>
          intro b hr hb
          have eb : b = n - (a + 1) := by omega
          refine hX _ _ _ _ _ _ _ ?_
          refine ⟨vp_in_nI (n := 3) (by omega) (by omega), ?_⟩
          refine b_ge rfl hB.1.1 (by omega) (by omega) (fun _ => ?_) (fun h => by omega)
          refine hX _ _ _ _ _ _ _ ?_
          have h9 := ih (a + 1) (by omega) (by omega)
          rw [sTw, ← eb, ← nI_1 a] at h9
          exact h9
        | succ r ih2 =>
          intro b hr hb
          have deep : ∀ t g (c : Bool), 6 - g = t → g ≤ 6 → (c = true ↔ ∀ i, i < g → σ 1 (23 + 9 * a + i) = σ 1 (23 + 9 * (a + 1 + b) + i)) → X 39 [some (.ref 0), some (.int (sTwi (σ 1) a (sTw (σ 1) n a) b)), some (.int (nI a)), some (.int (nI (a + 1 + b))), some (.int (if c = true then nI 1 else nI 0)), some (.int (nI (g + 1)))] [] sh_10 (mput σ 0 0 (nI 0)) 0 0 := by
            intro t
            induction t with
            | zero =>
              intro g c ht hg hc
              have eg : g = 6 := by omega
              subst eg
              have h9 := ih2 (b + 1) (by omega) (by omega)
              rw [show a + 1 + (b + 1) = a + 1 + b + 1 by omega, ← nI_1 (a + 1 + b)] at h9
              refine hX _ _ _ _ _ _ _ ?_
              refine b_gt rfl (b := 6) rfl (by omega) (by omega) (fun _ => ?_) (fun h => by omega)
              refine hX _ _ _ _ _ _ _ ?_
              rw [← alB_iff] at hc
              cases c with
              | true =>
                refine ⟨fun h => absurd h (by decide +kernel), fun _ => ?_⟩
                refine hX _ _ _ _ _ _ _ ?_
                rw [sTwi, if_pos (hc.mp rfl)] at h9
                exact h9
              | false =>
                refine ⟨fun _ => ?_, fun h => absurd rfl h⟩
                refine hX _ _ _ _ _ _ _ ?_
                refine hX _ _ _ _ _ _ _ ?_
                rw [sTwi, if_neg (fun z => Bool.noConfusion (hc.mpr z)), show sTwi (σ 1) a (sTw (σ 1) n a) b = sTwi (σ 1) a (sTw (σ 1) n a) b + nI 0 from (Int32.add_zero _).symm] at h9
                exact h9
            | succ t ih3 =>
              intro g c ht hg hc
              have go : ∀ (c2 : Bool) x, x = (if c2 = true then nI 1 else nI 0) → (c2 = true ↔ ∀ i, i < g + 1 → σ 1 (23 + 9 * a + i) = σ 1 (23 + 9 * (a + 1 + b) + i)) → X 73 [some (.ref 0), some (.int (sTwi (σ 1) a (sTw (σ 1) n a) b)), some (.int (nI a)), some (.int (nI (a + 1 + b))), none, some (.int (nI (g + 1)))] [.int x] sh_10 (mput σ 0 0 (nI 0)) 0 0 := by
                intro c2 x hx h2
                refine hX _ _ _ _ _ _ _ ?_
                have h9 := ih3 (g + 1) c2 (by omega) (by omega) h2
                rw [← hx, ← nI_1 (g + 1)] at h9
                exact h9
              refine hX _ _ _ _ _ _ _ ?_
              refine b_gt rfl (b := 6) rfl (by omega) (by omega) (fun h => by omega) (fun _ => ?_)
              cases c with
              | false =>
                refine ⟨fun _ => ?_, fun h => absurd rfl h⟩
                refine hX _ _ _ _ _ _ _ ?_
                exact go false _ rfl ⟨fun h => Bool.noConfusion h, fun h => hc.mpr (fun i hi => h i (by omega))⟩
              | true =>
                refine ⟨fun h => absurd h (by decide +kernel), fun _ => ?_⟩
                have hm := hc.mp rfl
                refine g_mixOf (g := g + 1) (by omega) (by omega) (by omega) ?_
                refine g_mixOf (g := g + 1) (by omega) (by omega) (by omega) ?_
                refine ⟨fun h => ?_, fun h => ?_⟩
                · have h : ¬ σ 1 (22 + 9 * a + (g + 1)) = σ 1 (22 + 9 * (a + 1 + b) + (g + 1)) := h
                  refine hX _ _ _ _ _ _ _ ?_
                  refine go false _ rfl ⟨fun h => Bool.noConfusion h, fun z => absurd ?_ h⟩
                  have := z g (by omega)
                  rw [show 22 + 9 * a + (g + 1) = 23 + 9 * a + g by omega, show 22 + 9 * (a + 1 + b) + (g + 1) = 23 + 9 * (a + 1 + b) + g by omega]
                  exact this
                · have h : σ 1 (22 + 9 * a + (g + 1)) = σ 1 (22 + 9 * (a + 1 + b) + (g + 1)) := h
                  rw [show 22 + 9 * a + (g + 1) = 23 + 9 * a + g by omega, show 22 + 9 * (a + 1 + b) + (g + 1) = 23 + 9 * (a + 1 + b) + g by omega] at h
                  refine go true _ rfl ⟨fun _ i hi => ?_, fun _ => rfl⟩
                  by_cases e : i = g
                  · rw [e]; exact h
                  · exact hm i (by omega)
          refine hX _ _ _ _ _ _ _ ?_
          refine ⟨vp_in_nI (n := 3) (by omega) (by omega), ?_⟩
          refine b_ge rfl hB.1.1 (by omega) (by omega) (fun h => by omega) (fun _ => ?_)
          exact deep _ 0 true rfl (by omega) ⟨fun _ i hi => absurd hi (by omega), fun _ => rfl⟩
      refine hX _ _ _ _ _ _ _ ?_
      refine ⟨vp_in_nI (n := 3) (by omega) (by omega), ?_⟩
      refine b_ge rfl hB.1.1 (by omega) (by omega) (fun h => by omega) (fun _ => ?_)
      have h9 := inner _ 0 rfl (Nat.zero_le _)
      rw [Nat.add_zero, ← nI_1 a] at h9
      exact h9
  refine hX _ _ _ _ _ _ _ ?_
  exact loop _ 0 rfl (Nat.zero_le _)
theorem g_logged {k w : Nat} (hk : k < 60) (hw : w < 5) (hq : Q (.inl (some (.int (σ 1 (123 + 5 * k + w))))) sh_10 σ) : mD (d + 1) 218 [.ref 0, .int (nI k), .int (nI w)] sh_10 σ Q := by
  have e : nI 123 + nI 5 * nI k + nI w = nI (123 + 5 * k + w) := by rw [nI_mul, nI_add, nI_add]
  refine ⟨rfl, fun X hX => ?_⟩
  refine hX _ _ _ _ _ _ _ ?_
  refine ⟨vin e (by omega) (by omega), ?_⟩
  rw [← clN e (by omega)] at hq
  exact hq
theorem g_led {p u : Int32} {day : Bool} {ll : Nat} (hu : u = (if day = true then nI 1 else nI 0)) (hB : BD (σ 1) n nc ns nd) (hl : σ 1 12 = nI ll) (hll : ll ≤ 60) (q1 : ∀ s r, s < n → p = nI s → ((day = false ∧ r = sRo (σ 1) (nI s) ll) ∨ (day = true ∧ (∀ k, k < ll → σ 1 (123 + 5 * k + 3) = nI s → (∀ i, i < k → ¬ σ 1 (123 + 5 * i + 3) = nI s) → r = σ 1 (123 + 5 * k)) ∧ ((∀ i, i < ll → ¬ σ 1 (123 + 5 * i + 3) = nI s) → r = -(nI 1)))) → ∀ σ', MX σ (σ 1) (nI 0) σ' → Q (.inl (some (.int r))) sh_10 σ') (q0 : (¬ ∃ s, s < n ∧ p = nI s) → ∀ σ', MX σ (σ 1) (nI 1) σ' → Q (.inl (some (.int (nI 0)))) sh_10 σ') : mD (d + 4) 219 [.ref 0, .int p, .int u] sh_10 σ Q := by
  have hn := hB.1.2
  refine ⟨rfl, fun X hX => ?_⟩
  refine hX _ _ _ _ _ _ _ ?_
  refine g_isStreet (fun h2 => ?_) (fun h2 => ?_)
  · rw [hB.1.1, sIn_iff (by omega)] at h2
    obtain ⟨s, hs, rfl⟩ := h2
    have hq := fun r => q1 s r hs rfl
    refine ⟨fun _ => ?_, fun z => absurd z (by decide +kernel)⟩
    refine hX _ _ _ _ _ _ _ ?_
    refine hX _ _ _ _ _ _ _ ?_
    refine ⟨fun _ => ?_, fun z => absurd (show nI 0 ≤ 0 from by decide +kernel) z⟩
    have loop : ∀ k x c t, x = nI k - nI 1 → k ≤ ll → c + sRo (σ 1) (nI s) k = sRo (σ 1) (nI s) ll → (∀ j, k ≤ j → j < ll → σ 1 (123 + 5 * j + 3) = nI s → (∀ i, k ≤ i → i < j → ¬ σ 1 (123 + 5 * i + 3) = nI s) → t = σ 1 (123 + 5 * j)) → ((∀ i, k ≤ i → i < ll → ¬ σ 1 (123 + 5 * i + 3) = nI s) → t = -(nI 1)) → X 42 [some (.ref 0), some (.int (nI s)), some (.int u), some (.int c), some (.int t), some (.int x)] [] sh_10 (mput σ 0 0 (nI 0)) 0 0 := by
      intro k
      induction k with
      | zero =>
        intro x c t hx hk hc h1 h0
        subst hx
        refine hX _ _ _ _ _ _ _ ?_
        refine ⟨fun _ => ?_, fun z => absurd (show nI 0 - nI 1 < 0 from by decide +kernel) z⟩
        refine hX _ _ _ _ _ _ _ ?_
        have hc : c = sRo (σ 1) (nI s) ll := (Int32.add_zero c).symm.trans hc
        cases day with
        | true =>
          subst hu
          refine ⟨fun z => absurd z (by decide +kernel), fun _ => ?_⟩
          refine hX _ _ _ _ _ _ _ ?_
          exact hq t (Or.inr ⟨rfl, fun j hj e hi => h1 j (by omega) hj e (fun i _ => hi i), fun hi => h0 (fun i _ => hi i)⟩) _ MX.th
        | false =>
          subst hu
          refine ⟨fun _ => ?_, fun z => absurd rfl z⟩
          refine hX _ _ _ _ _ _ _ ?_
          refine hX _ _ _ _ _ _ _ ?_
          exact hq c (Or.inl ⟨rfl, hc⟩) _ MX.th
      | succ k ih =>
        intro x c t hx hk hc h1 h0
        rw [nI_sub (by omega), Nat.add_sub_cancel] at hx
        subst hx
        have go : ∀ c t, c + sRo (σ 1) (nI s) k = sRo (σ 1) (nI s) ll → (∀ j, k ≤ j → j < ll → σ 1 (123 + 5 * j + 3) = nI s → (∀ i, k ≤ i → i < j → ¬ σ 1 (123 + 5 * i + 3) = nI s) → t = σ 1 (123 + 5 * j)) → ((∀ i, k ≤ i → i < ll → ¬ σ 1 (123 + 5 * i + 3) = nI s) → t = -(nI 1)) → X 73 [some (.ref 0), some (.int (nI s)), some (.int u), some (.int c), some (.int t), some (.int (nI k))] [] sh_10 (mput σ 0 0 (nI 0)) 0 0 := by
          intro c t a1 a2 a3
          refine hX _ _ _ _ _ _ _ ?_
          exact ih _ c t rfl (by omega) a1 a2 a3
        refine hX _ _ _ _ _ _ _ ?_
        refine ⟨fun z => absurd z (nI_pos (by omega)), fun _ => ?_⟩
        refine g_logged (w := 3) (by omega) (by omega) ?_
        rw [sRo_s] at hc
        refine ⟨fun e => ?_, fun e => ?_⟩
        · have e : σ 1 (123 + 5 * k + 3) = nI s := e
          rw [if_pos e] at hc
          refine hX _ _ _ _ _ _ _ ?_
          refine g_logged (w := 0) (by omega) (by omega) ?_
          refine go _ _ ?_ (fun j hj hj2 ej hi => ?_) (fun hi => absurd e (hi k (Nat.le_refl _) (by omega)))
          · show c + nI 1 + _ = _
            rw [← hc, Int32.add_assoc, Int32.add_comm (nI 1)]
          · by_cases e2 : j = k
            · rw [e2]; rfl
            · exact absurd e (hi k (Nat.le_refl _) (by omega))
        · have e : ¬ σ 1 (123 + 5 * k + 3) = nI s := e
          rw [if_neg e] at hc
          refine go _ _ hc (fun j hj hj2 ej hi => ?_) (fun hi => h0 (fun i a b => hi i (by omega) b))
          have : j ≠ k := fun z => e (z ▸ ej)
          exact h1 j (by omega) hj2 ej (fun i a b => hi i (by omega) b)
    refine hX _ _ _ _ _ _ _ ?_
    refine ⟨vp_in_nI (n := 12) (by omega) (by omega), ?_⟩
    refine loop ll _ _ _ ?_ (Nat.le_refl _) ?_ (fun j a b => absurd b (by omega)) (fun _ => rfl)
    · exact congrArg (· - nI 1) hl
    · show nI 0 + _ = _
      exact Int32.zero_add _
  · rw [hB.1.1, sIn_iff (by omega)] at h2
    refine ⟨fun z => absurd rfl z, fun _ => ?_⟩
    refine hX _ _ _ _ _ _ _ ?_
    refine ⟨fun z => absurd (show nI 1 ≤ 0 from z) (by decide +kernel), fun _ => ?_⟩
    exact q0 h2 _ MX.th
theorem g_log {p w : Int32} {ll : Nat} (hl : σ 1 12 = nI ll) (hll : ll ≤ 60) (q1 : ∀ a k, a < ll → p = nI a → k < 5 → w = nI k → ∀ σ', MX σ (σ 1) (nI 0) σ' → Q (.inl (some (.int (σ 1 (123 + 5 * a + k))))) sh_10 σ') (q3 : (¬ ∃ a, a < ll ∧ p = nI a) → (∃ k, k < 5 ∧ w = nI k) → ∀ σ', MX σ (σ 1) (nI 0) σ' → Q (.inl (some (.int (-(nI 2))))) sh_10 σ') (q2 : (¬ ∃ k, k < 5 ∧ w = nI k) → ∀ σ', MX σ (σ 1) (nI 1) σ' → Q (.inl (some (.int (nI 0)))) sh_10 σ') : mD (d + 4) 220 [.ref 0, .int p, .int w] sh_10 σ Q := by
  refine ⟨rfl, fun X hX => ?_⟩
  refine hX _ _ _ _ _ _ _ ?_
  refine g_isIn (fun h2 => ?_) (fun h2 => ?_)
  · have h2 : sIn w (nI 0) (nI 4) := h2
    rw [sIn0_iff (by omega)] at h2
    obtain ⟨k, hk, rfl⟩ := h2
    refine ⟨fun _ => ?_, fun z => absurd z (by decide +kernel)⟩
    refine hX _ _ _ _ _ _ _ ?_
    refine hX _ _ _ _ _ _ _ ?_
    refine ⟨fun _ => ?_, fun z => absurd (show nI 0 ≤ 0 from by decide +kernel) z⟩
    refine hX _ _ _ _ _ _ _ ?_
    refine ⟨vp_in_nI (n := 12) (by omega) (by omega), ?_⟩
    refine g_isIn (fun h3 => ?_) (fun h3 => ?_)
    · have h3 : sIn p (nI 0) (σ 1 12 - nI 1) := h3
      rw [hl, sIn_iff (by omega)] at h3
      obtain ⟨a, ha, rfl⟩ := h3
      refine ⟨fun z => absurd z (by decide +kernel), fun _ => ?_⟩
      refine g_logged (by omega) hk ?_
      refine hX _ _ _ _ _ _ _ ?_
      exact q1 a k ha rfl hk rfl _ MX.th
    · have h3 : ¬ sIn p (nI 0) (σ 1 12 - nI 1) := h3
      rw [hl, sIn_iff (by omega)] at h3
      refine ⟨fun _ => ?_, fun z => absurd rfl z⟩
      refine hX _ _ _ _ _ _ _ ?_
      refine hX _ _ _ _ _ _ _ ?_
      exact q3 h3 ⟨k, hk, rfl⟩ _ MX.th
  · have h2 : ¬ sIn w (nI 0) (nI 4) := h2
    rw [sIn0_iff (by omega)] at h2
    refine ⟨fun z => absurd rfl z, fun _ => ?_⟩
    refine hX _ _ _ _ _ _ _ ?_
    refine ⟨fun z => absurd (show nI 1 ≤ 0 from z) (by decide +kernel), fun _ => ?_⟩
    exact q2 h2 _ MX.th
theorem g_fault (hq : ∀ σ', MX σ (σ 1) (nI 0) σ' → Q (.inl (some (.int (σ 0 12)))) sh_10 σ') : mD (d + 1) 129 [.ref 0] sh_10 σ Q := by
  refine ⟨rfl, fun X hX => ?_⟩
  refine hX _ _ _ _ _ _ _ ?_
  exact hq _ MX.th
theorem g_seed {v : Int32} (hq : ∀ σ', MX σ (upd (σ 1) 13 v) (nI 0) σ' → Q (.inl (some (.int (σ 1 13)))) sh_10 σ') : mD (d + 1) 221 [.ref 0, .int v] sh_10 σ Q := by
  refine ⟨rfl, fun X hX => ?_⟩
  refine hX _ _ _ _ _ _ _ ?_
  refine ⟨vp_in_nI (n := 13) (by omega) (by omega), ?_⟩
  refine ⟨vp_in_nI (n := 13) (by omega) (by omega), ?_⟩
  exact hq (mput (mput σ 0 0 (nI 0)) 1 13 v) ⟨rfl, rfl, rfl, rfl, rfl, rfl, rfl, rfl, rfl, fun z => z⟩
end MY3
