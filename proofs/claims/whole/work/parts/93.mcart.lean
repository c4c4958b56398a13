/-! THE MODEL: a cart -/
def gN (m : Nat → Int32) (c : Nat) : Nat := (m (84 + 2 * c)).toNatClampNeg
/-- what is said of a cart -/
def sCa (m : Nat → Int32) (n c : Nat) : Nat → Int32
  | 0 => m (83 + 2 * c)
  | 1 => m (84 + 2 * c)
  | 2 => sRch m n c
  | 3 => sWO m (nI (sBt m n (gN m c) (2 ^ n))) n
  | _ => nI (sBt m n (gN m c) (2 ^ n))
section MCA
variable {d : Nat} {σ : mSg} {Q : mPst} {n nc ns nd : Nat}
theorem gN_ok {m : Nat → Int32} {c : Nat} (hB : BD m n nc ns nd) (hc : c < nc) : m (84 + 2 * c) = nI (gN m c) ∧ gN m c ≤ 99 := by
  obtain ⟨-, g, h1, h2, h3⟩ := hB.2.2.2.2.2.1 c hc
  have e : gN m c = g := clN h3 (by omega)
  exact ⟨by rw [e]; exact h3, by omega⟩
theorem MX.l {W σ' : mSg} (hW : W = mput σ 0 0 (nI 0)) (h : ∀ c, c ≠ 7 → c ≠ 8 → σ' c = W c) : MX σ (σ 1) (nI 0) σ' := by
  subst hW
  have c0 := h 0 (by omega) (by omega)
  exact ⟨h 1 (by omega) (by omega), h 2 (by omega) (by omega), h 4 (by omega) (by omega), h 5 (by omega) (by omega), congrFun c0 0, congrFun c0 3, congrFun c0 6, congrFun c0 8, congrFun c0 12, k15.e (congrFun c0 15)⟩
theorem g_cart {p w : Int32} (hB : BD (σ 1) n nc ns nd) (q1 : ∀ c k, c < nc → p = nI c → k < 5 → w = nI k → ∀ σ', MX σ (σ 1) (nI 0) σ' → Q (.inl (some (.int (sCa (σ 1) n c k)))) sh_10 σ') (q0 : (¬ ∃ c, c < nc ∧ p = nI c) → ∀ σ', MX σ (σ 1) (nI 1) σ' → Q (.inl (some (.int (nI 0)))) sh_10 σ') (q2 : (∃ c, c < nc ∧ p = nI c) → (¬ ∃ k, k < 5 ∧ w = nI k) → ∀ σ', MX σ (σ 1) (nI 2) σ' → Q (.inl (some (.int (nI 0)))) sh_10 σ') : mD (d + 5) 153 [.ref 0, .int p, .int w] sh_10 σ Q := by
  have hn := hB.1.2
  have hnc := hB.2.1.2
  refine ⟨rfl, fun X hX => ?_⟩
  refine hX _ _ _ _ _ _ _ ?_
  refine g_isCart (fun h => ?_) (fun h => ?_)
  · rw [hB.2.1.1, sIn_iff (by omega)] at h
    refine ⟨fun _ => ?_, fun z => absurd z (by decide +kernel)⟩
    refine hX _ _ _ _ _ _ _ ?_
    refine g_isIn (fun h2 => ?_) (fun h2 => ?_)
    · have h2 : sIn w (nI 0) (nI 4) := h2
      rw [sIn0_iff (by omega)] at h2
      obtain ⟨c, hc, rfl⟩ := h
      obtain ⟨k, hk, rfl⟩ := h2
      have hq := q1 c k hc rfl hk rfl
      have hg := gN_ok hB hc
      have hBt : BD (mput σ 0 0 (nI 0) 1) n nc ns nd := hB
      refine ⟨fun _ => ?_, fun z => absurd z (by decide +kernel)⟩
      refine hX _ _ _ _ _ _ _ ?_
      refine hX _ _ _ _ _ _ _ ?_
      refine ⟨fun _ => ?_, fun z => absurd (show nI 0 ≤ 0 from by decide +kernel) z⟩
      refine hX _ _ _ _ _ _ _ ?_
      refine b_ne rfl (b := 0) rfl (by omega) (by omega) (fun k0 => ?_) (fun k0 => ?_)
      · refine hX _ _ _ _ _ _ _ ?_
        refine b_ne rfl (b := 1) rfl (by omega) (by omega) (fun k1 => ?_) (fun k1 => ?_)
        · refine hX _ _ _ _ _ _ _ ?_
          refine b_ne rfl (b := 2) rfl (by omega) (by omega) (fun k2 => ?_) (fun k2 => ?_)
          · refine hX _ _ _ _ _ _ _ ?_
            refine b_ne rfl (b := 3) rfl (by omega) (by omega) (fun k3 => ?_) (fun k3 => ?_)
            · have e4 : k = 4 := by omega
              subst e4
              refine hX _ _ _ _ _ _ _ ?_
              refine g_bestRound (σ := mput σ 0 0 (nI 0)) (by omega) hBt hg.1 hg.2 (fun σ' hs => ?_)
              refine hX _ _ _ _ _ _ _ ?_
              exact hq _ (MX.l rfl hs)
            · subst k3
              refine g_bestRound (σ := mput σ 0 0 (nI 0)) (by omega) hBt hg.1 hg.2 (fun σ' hs => ?_)
              have e1 : σ' 1 = σ 1 := hs 1 (by omega) (by omega)
              have hBs : BD (σ' 1) n nc ns nd := by rw [e1]; exact hB
              refine g_waitsOf hBs ?_
              refine hX _ _ _ _ _ _ _ ?_
              have h9 := hq _ (MX.l rfl hs)
              rw [sCa, ← e1] at h9
              exact qi (by rw [e1]; rfl) h9
          · subst k2
            refine g_reached (by omega) hBt ?_
            exact hq _ MX.th
        · subst k1
          refine g_goesFar (by omega) ?_
          exact hq _ MX.th
      · subst k0
        refine g_hold (by omega) ?_
        exact hq _ MX.th
    · have h2 : ¬ sIn w (nI 0) (nI 4) := h2
      rw [sIn0_iff (by omega)] at h2
      refine ⟨fun z => absurd rfl z, fun _ => ?_⟩
      refine hX _ _ _ _ _ _ _ ?_
      refine ⟨fun z => absurd (show nI 2 ≤ 0 from z) (by decide +kernel), fun _ => ?_⟩
      exact q2 h h2 _ MX.th
  · rw [hB.2.1.1, sIn_iff (by omega)] at h
    refine ⟨fun z => absurd rfl z, fun _ => ?_⟩
    refine hX _ _ _ _ _ _ _ ?_
    refine ⟨fun z => absurd (show nI 1 ≤ 0 from z) (by decide +kernel), fun _ => ?_⟩
    exact q0 h _ MX.th
end MCA
