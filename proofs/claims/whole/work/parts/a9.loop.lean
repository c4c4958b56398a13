/-! THE LAW'S LOOP -/
theorem lt6 {N i : Nat} (hN : N < 2 ^ 30) (hi : i < 2 ^ 30) (h : ¬ i + 6 ≤ N) : nI N - nI 6 < nI i := by
  by_cases e : 6 ≤ N
  · rw [nI_sub e]
    exact nI_lt (by omega) (by omega)
  · have d : ∀ k, k < 6 → nI k - nI 6 < nI 0 := by decide +kernel
    have h1 := d N (by omega)
    have h2 : nI 0 ≤ nI i := nI_le (Nat.zero_le _) (by omega)
    rw [Int32.lt_iff_toInt_lt] at h1 ⊢
    rw [Int32.le_iff_toInt_le] at h2
    omega
theorem nlt6 {N i : Nat} (hN : N < 2 ^ 30) (h : i + 6 ≤ N) : ¬ nI N - nI 6 < nI i := by
  rw [nI_sub (by omega)]
  exact nI_nlt (by omega) (by omega)
set_option maxRecDepth 100000 in
theorem law_loop {N mc ms : Nat} {f : Nat → Int32} {Q : mPst} {X : mJt} (hX : LX N f mc ms Q X) (hQ : ∀ sh σ, Q (.inl (some (.int (nI 1)))) sh σ) (hN : N < 2 ^ 29) : ∀ (r i c n : Nat) (W : mSg), N < i + 6 * (r + 1) → i ≤ N + 6 → c + 10 * r ≤ mc → n + 60 * r ≤ ms → IV W → X 23 (lloc i) [] shL W c n := by
  have fin : ∀ (c n : Nat) (W : mSg) (sh : List mSh) (L : mLc), c ≤ mc → n ≤ ms → X 3073 L [] sh W c n := by
    intro c n W sh L h1 h2
    refine hX _ _ _ _ _ _ _ ?_
    show bx (mD 58) mi msp (some (N, f)) mc ms true X Q [(.ireturn, 1, 0, 0, 0, 0, [])] L [.int (nI 1)] sh W c n
    exact lc_r h1 h2 (Or.inr (by decide +kernel)) (hQ _ _)
  intro r
  induction r with
  | zero =>
    intro i c n W h1 h2 h3 h4 hI
    refine hX _ _ _ _ _ _ _ ?_
    refine ⟨fun _ => ?_, fun z => absurd (lt6 (by omega) (by omega) (by omega)) z⟩
    exact fin _ _ _ _ _ (by omega) (by omega)
  | succ r ih =>
    intro i c n W h1 h2 h3 h4 hI
    refine hX _ _ _ _ _ _ _ ?_
    refine ⟨fun _ => fin _ _ _ _ _ (by omega) (by omega), fun z => ?_⟩
    by_cases hi : i + 6 ≤ N
    · have hK : LK X i c n := by
        intro W' c' n' hI' hc hn
        refine hX _ _ _ _ _ _ _ ?_
        have h := ih (i + 6) c' n' W' (by omega) (by omega) (by omega) (by omega) hI'
        rw [show lloc (i + 6) = [some (.ref 1201), some (.ref 0), some (.ref 176), some (.ref 190), some (.int (nI i + nI 6)), none, none] by rw [nI_add]] at h
        exact h
      refine ⟨vin (k := i) rfl (by omega) (by omega), fun _ => hK _ _ _ hI (by omega) (by omega), ?_⟩
      exact ⟨fun _ => ll_0 hX hK hI hi (by omega) (by omega) (by omega), fun _ => ll_1 hX hK hI hi (by omega) (by omega) (by omega), fun _ => ll_2 hX hK hI hi (by omega) (by omega) (by omega), fun _ => ll_3 hX hK hI hi (by omega) (by omega) (by omega), fun _ => ll_4 hX hK hI hi (by omega) (by omega) (by omega), fun _ => ll_5 hX hK hI hi (by omega) (by omega) (by omega), fun _ => ll_6 hX hK hI hi (by omega) (by omega) (by omega), fun _ => ll_7 hX hK hI hi (by omega) (by omega) (by omega), fun _ => ll_8 hX hK hI hi (by omega) (by omega) (by omega), fun _ => ll_9 hX hK hI hi (by omega) (by omega) (by omega), fun _ => ll_10 hX hK hI hi (by omega) (by omega) (by omega), fun _ => ll_11 hX hK hI hi (by omega) (by omega) (by omega), fun _ => ll_12 hX hK hI hi (by omega) (by omega) (by omega), fun _ => ll_13 hX hK hI hi (by omega) (by omega) (by omega), fun _ => ll_14 hX hK hI hi (by omega) (by omega) (by omega), fun _ => ll_15 hX hK hI hi (by omega) (by omega) (by omega), fun _ => ll_16 hX hK hI hi (by omega) (by omega) (by omega), fun _ => ll_17 hX hK hI hi (by omega) (by omega) (by omega), fun _ => ll_18 hX hK hI hi (by omega) (by omega) (by omega), fun _ => ll_19 hX hK hI hi (by omega) (by omega) (by omega), fun _ => ll_20 hX hK hI hi (by omega) (by omega) (by omega), fun _ => ll_21 hX hK hI hi (by omega) (by omega) (by omega), fun _ => ll_22 hX hK hI hi (by omega) (by omega) (by omega), fun _ => ll_23 hX hK hI hi (by omega) (by omega) (by omega), fun _ => ll_24 hX hK hI hi (by omega) (by omega) (by omega), fun _ => ll_25 hX hK hI hi (by omega) (by omega) (by omega), fun _ => ll_26 hX hK hI hi (by omega) (by omega) (by omega), fun _ => ll_27 hX hK hI hi (by omega) (by omega) (by omega), fun _ => ll_28 hX hK hI hi (by omega) (by omega) (by omega), fun _ => ll_29 hX hK hI hi (by omega) (by omega) (by omega), fun _ => ll_30 hX hK hI hi (by omega) (by omega) (by omega), fun _ => ll_31 hX hK hI hi (by omega) (by omega) (by omega), fun _ => ll_32 hX hK hI hi (by omega) (by omega) (by omega), fun _ => ll_33 hX hK hI hi (by omega) (by omega) (by omega), fun _ => ll_34 hX hK hI hi (by omega) (by omega) (by omega), fun _ => ll_35 hX hK hI hi (by omega) (by omega) (by omega), fun _ => ll_36 hX hK hI hi (by omega) (by omega) (by omega), fun _ => ll_37 hX hK hI hi (by omega) (by omega) (by omega), fun _ => ll_38 hX hK hI hi (by omega) (by omega) (by omega), fun _ => ll_39 hX hK hI hi (by omega) (by omega) (by omega), fun _ => ll_40 hX hK hI hi (by omega) (by omega) (by omega), fun _ => ll_41 hX hK hI hi (by omega) (by omega) (by omega), fun _ => ll_42 hX hK hI hi (by omega) (by omega) (by omega), fun _ => ll_43 hX hK hI hi (by omega) (by omega) (by omega), fun _ => ll_44 hX hK hI hi (by omega) (by omega) (by omega), fun _ => ll_45 hX hK hI hi (by omega) (by omega) (by omega), fun _ => ll_46 hX hK hI hi (by omega) (by omega) (by omega), fun _ => ll_47 hX hK hI hi (by omega) (by omega) (by omega), fun _ => ll_48 hX hK hI hi (by omega) (by omega) (by omega), fun _ => ll_49 hX hK hI hi (by omega) (by omega) (by omega), fun _ => ll_50 hX hK hI hi (by omega) (by omega) (by omega), fun _ => ll_51 hX hK hI hi (by omega) (by omega) (by omega), fun _ => ll_52 hX hK hI hi (by omega) (by omega) (by omega), fun _ => ll_53 hX hK hI hi (by omega) (by omega) (by omega), fun _ => ll_54 hX hK hI hi (by omega) (by omega) (by omega), fun _ => ll_55 hX hK hI hi (by omega) (by omega) (by omega), trivial⟩
    · exact absurd (lt6 (by omega) (by omega) hi) z
