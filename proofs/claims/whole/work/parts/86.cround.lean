/-! THE CLASS: the round over the streets that the tape says -/
/-- what the yard's rounds have measured, if they have -/
def YC (σ : mSg) (m : Nat → Int32) (n : Nat) : Prop := σ 165 0 = nI 0 ∧ (σ 164 3 = nI 0 ∨ (σ 164 3 = nI 1 ∧ (∀ T, T < 2 ^ n → σ 165 T = nI (mWh m n T)) ∧ ∀ T k, T < 2 ^ n → k < n → T.testBit k = true → σ 166 (7 * T + k) = nI (mUp m n T k)))
theorem mgl_rn : ∀ c, c < 9 → mgl [(164, 4), (5, 9)] (mgl [(4, 9)] c) = mgl [(5, 9)] c := by decide +kernel
section CRD
variable {d : Nat} {σ W σ2 : mSg} {m : Nat → Int32} {Q : mPst} {n nc ns nd : Nat}
theorem YC.rch (h : YC σ m n) : RCh (fun j => σ (mgl [(164, 4), (5, 9)] j)) m n := by
  obtain ⟨h1, h2⟩ := h
  refine ⟨h1, ?_⟩
  rcases h2 with h2 | ⟨h2, h3, h4⟩
  · exact Or.inl h2
  · exact Or.inr ⟨h2, fun _ _ _ => rfl, h3, h4⟩
theorem RYs.rr (h : RYs σ m) : RR (fun j => σ (mgl [(164, 4), (5, 9)] j)) m := RS.congr h (fun c hc => by
  show σ (mgl [(164, 4), (5, 9)] (mgl [(4, 9)] c)) = σ (mgl [(5, 9)] c)
  rw [mgl_rn c hc])
theorem RMe.back (h : RMe (fun j => W (mgl [(164, 4), (5, 9)] j)) m n σ2) : YC (mback [(164, 4), (5, 9)] W σ2) m n ∧ ∀ c, c ≠ 164 → c ≠ 165 → c ≠ 166 → mback [(164, 4), (5, 9)] W σ2 c = W c := by
  obtain ⟨h1, h2, h3, h4⟩ := h
  refine ⟨⟨?_, Or.inr ⟨h2, h3, h4⟩⟩, fun c a b e => ?_⟩
  · have := h3 0 (Nat.two_pow_pos n)
    rw [mWh0] at this
    exact this
  · by_cases o : (c < 164 ∨ 168 ≤ c) ∧ (c < 5 ∨ 14 ≤ c)
    · exact mback_out2 o.1 o.2
    · have hc : c = 167 ∨ c = 5 ∨ c = 6 ∨ c = 7 ∨ c = 8 ∨ c = 9 ∨ c = 10 ∨ c = 11 ∨ c = 12 ∨ c = 13 := by omega
      rcases hc with rfl | rfl | rfl | rfl | rfl | rfl | rfl | rfl | rfl | rfl
      · exact h1 3 (by omega) (by omega) (by omega)
      · exact h1 4 (by omega) (by omega) (by omega)
      · exact h1 5 (by omega) (by omega) (by omega)
      · exact h1 6 (by omega) (by omega) (by omega)
      · exact h1 7 (by omega) (by omega) (by omega)
      · exact h1 8 (by omega) (by omega) (by omega)
      · exact h1 9 (by omega) (by omega) (by omega)
      · exact h1 10 (by omega) (by omega) (by omega)
      · exact h1 11 (by omega) (by omega) (by omega)
      · exact h1 12 (by omega) (by omega) (by omega)
set_option maxRecDepth 100000 in
theorem c_yround {t : Nat} {B : Nat → Nat} (hB : BD m n nc ns nd) (hR : RYs σ m) (hC : YC σ m n) (h3 : σ 1 3 = nI t) (ht : t ≤ 400) (hb : ∀ k, k < t → σ 2 k = nI (B k) ∧ B k < 256) (q1 : t ≤ 6 → (∀ k, k < t → B k < n) → ∀ σ', σ' 1 3 = nI 0 → YC σ' m n → (∀ c, c < 1 ∨ 5 ≤ c → c ≠ 164 → c ≠ 165 → c ≠ 166 → σ' c = σ c) → Q (.inl (some (.int (nI (mWh m n (tS B t)))))) sh_9 σ') (q0 : ¬ (t ≤ 6 ∧ ∀ k, k < t → B k < n) → ∀ σ', σ' 1 3 = nI 0 → (∀ c, c < 1 ∨ 5 ≤ c → σ' c = σ c) → Q (.inr 0) sh_9 σ') : mD (d + 6) 27 [.ref 0] sh_9 σ Q := by
  have hn := hB.1.2
  have h2n : 2 ^ n ≤ 128 := Nat.pow_le_pow_right (by omega) hn
  refine ⟨rfl, fun X hX => ?_⟩
  refine hX _ _ _ _ _ _ _ ?_
  refine c_streetsTold hB hR h3 ht hb (fun h6 hl => ?_) (fun hno => ?_)
  · have hts := tS_lt t hl
    refine c_clear ?_
    refine ⟨fun _ => ?_, fun y => absurd y (fun y => ?_)⟩
    · refine hX _ _ _ _ _ _ _ ?_
      have hR1 : RYs (mback [(1, 4)] σ (mput (fun j => σ (mgl [(1, 4)] j)) 0 3 (nI 0))) m := hR.keep
      have hC1 : YC (mback [(1, 4)] σ (mput (fun j => σ (mgl [(1, 4)] j)) 0 3 (nI 0))) m n := hC
      refine c_leastWay hB hR1.rr hC1.rch hts (fun σ2 h2 => ?_)
      have h4 := h2.back
      refine q1 h6 hl _ ?_ h4.1 (fun c a b e f => ?_)
      · exact congrFun (h4.2 1 (by omega) (by omega) (by omega)) 3
      · exact (h4.2 c b e f).trans (mback_out (k := 1) (n := 4) (by omega))
    · have y : nI (tS B t) = -(nI 1) := y
      have a1 : (nI (tS B t)).toInt = _ := nI_toInt (by omega)
      rw [y] at a1
      have a2 : (-(nI 1)).toInt = -1 := by decide +kernel
      omega
  · refine c_clear ?_
    refine ⟨fun z => absurd rfl z, fun _ => ?_⟩
    exact q0 hno _ rfl (fun c hc => mback_out (k := 1) (n := 4) (by omega))
end CRD
