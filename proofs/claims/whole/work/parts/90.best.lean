/-! THE BEST ROUND IS NO WORSE THAN ANY -/
theorem sBt_opt {m : Nat → Int32} {n g : Nat} : ∀ K K', K' < K → mWh m n K' ≤ g → wS m n K' < wS m n (sBt m n g K) ∨ (wS m n K' = wS m n (sBt m n g K) ∧ mWh m n (sBt m n g K) ≤ mWh m n K')
  | 0, _, h, _ => by omega
  | K + 1, K', h, hg => by
    have ih := fun h2 => sBt_opt (m := m) (n := n) (g := g) K K' h2 hg
    unfold sBt
    by_cases e : K' = K
    · subst e
      split
      · exact Or.inr ⟨rfl, Nat.le_refl _⟩
      · rename_i hc
        by_cases c1 : wS m n (sBt m n g K') < wS m n K'
        · exact absurd ⟨hg, Or.inl c1⟩ hc
        · by_cases c2 : wS m n K' = wS m n (sBt m n g K')
          · by_cases c3 : mWh m n K' < mWh m n (sBt m n g K')
            · exact absurd ⟨hg, Or.inr ⟨c2, c3⟩⟩ hc
            · exact Or.inr ⟨c2, by omega⟩
          · exact Or.inl (by omega)
    · have i2 := ih (by omega)
      split
      · rename_i hc
        omega
      · exact i2
/-- a set that has an equal ahead of it, no longer, is not taken -/
theorem sBt_skip {m : Nat → Int32} {n g K K' : Nat} (h : K' < K) (hw : wS m n K' = wS m n K) (hl : mWh m n K' ≤ mWh m n K) : sBt m n g (K + 1) = sBt m n g K := by
  rw [sBt]
  refine if_neg (fun hc => ?_)
  have := sBt_opt (m := m) (n := n) (g := g) K K' h (by omega)
  omega
