/-! BOTH SIDES: the round over the streets that the tape says -/
def tS (B : Nat → Nat) : Nat → Nat
  | 0 => 0
  | k + 1 => tS B k ||| 2 ^ B k
theorem bit_or : ∀ S, S < 128 → ∀ k, k < 7 → nI S ||| (nI 1 <<< (nI k &&& 31)) = nI (S ||| 2 ^ k) := by decide +kernel
theorem tS_lt {B : Nat → Nat} {n : Nat} : ∀ k, (∀ i, i < k → B i < n) → tS B k < 2 ^ n
  | 0, _ => Nat.two_pow_pos n
  | k + 1, h => Nat.or_lt_two_pow (tS_lt k (fun i hi => h i (by omega))) (Nat.pow_lt_pow_right (by omega) (h k (by omega)))
section ROC
variable {d : Nat} {σ : mSg} {m : Nat → Int32} {Q : mPst} {n nc ns nd : Nat}
theorem c_leastWay {S : Nat} (hB : BD m n nc ns nd) (hR : RR σ m) (hc : RCh σ m n) (hS : S < 2 ^ n) (hq : ∀ σ', RMe σ m n σ' → Q (.inl (some (.int (nI (mWh m n S))))) sh_6_7 σ') : mD (d + 5) 290 [.ref 0, .ref 4, .int (nI S)] sh_6_7 σ Q := by
  have hn := hB.1.2
  have h2n : 2 ^ n ≤ 128 := Nat.pow_le_pow_right (by omega) hn
  refine ⟨rfl, fun X hX => ?_⟩
  refine hX _ _ _ _ _ _ _ ?_
  refine c_measure hB hR hc (fun σ2 h2 => ?_)
  refine ⟨fun z => absurd z (nI_pos (by omega)), fun _ => ?_⟩
  refine b_ge rfl (b := 128) rfl (by omega) (by omega) (fun h => by omega) (fun _ => ?_)
  refine ⟨vp_in_nI (n := S) (by omega) (by omega), ?_⟩
  refine hX _ _ _ _ _ _ _ ?_
  have e : nI (mWh m n S) = σ2 1 (nI S).toNatClampNeg := by
    rw [nI_clamp (by omega)]
    exact (h2.2.2.1 S hS).symm
  exact qi e (hq _ h2)
set_option maxRecDepth 100000 in
theorem c_streetsTold {t : Nat} {B : Nat → Nat} (hB : BD m n nc ns nd) (hR : RYs σ m) (h3 : σ 1 3 = nI t) (ht : t ≤ 400) (hb : ∀ k, k < t → σ 2 k = nI (B k) ∧ B k < 256) (q1 : t ≤ 6 → (∀ k, k < t → B k < n) → Q (.inl (some (.int (nI (tS B t))))) sh_9 σ) (q0 : ¬ (t ≤ 6 ∧ ∀ k, k < t → B k < n) → Q (.inl (some (.int (-(nI 1))))) sh_9 σ) : mD (d + 1) 69 [.ref 0] sh_9 σ Q := by
  have hn := hB.1.2
  have h2n : 2 ^ n ≤ 128 := Nat.pow_le_pow_right (by omega) hn
  have e : σ 5 7 = nI n := (hR.g rf0.1).trans hB.1.1
  refine ⟨rfl, fun X hX => ?_⟩
  refine hX _ _ _ _ _ _ _ ?_
  refine b_le h3 (b := 6) rfl (by omega) (by omega) (fun h6 => ?_) (fun h6 => q0 (fun z => by omega))
  have loop : ∀ r k, t - k = r → k ≤ t → (∀ i, i < k → B i < n) → X 18 [some (.ref 0), some (.int (nI (tS B k))), some (.int (nI k)), none] [] sh_9 σ 0 0 := by
    intro r
    induction r with
    | zero =>
      intro k hr hk hl
      have ek : k = t := by omega
      rw [ek] at hl ⊢
      refine hX _ _ _ _ _ _ _ ?_
      refine b_ge rfl h3 (by omega) (by omega) (fun _ => ?_) (fun h => by omega)
      refine hX _ _ _ _ _ _ _ ?_
      exact q1 h6 hl
    | succ r ih =>
      intro k hr hk hl
      have hbk := hb k (by omega)
      have ec : σ 2 (nI k).toNatClampNeg = nI (B k) := by rw [nI_clamp (by omega)]; exact hbk.1
      have hts := tS_lt k hl
      refine hX _ _ _ _ _ _ _ ?_
      refine b_ge rfl h3 (by omega) (by omega) (fun h => by omega) (fun _ => ?_)
      refine ⟨vp_in_nI (n := k) (by omega) (by omega), ?_⟩
      refine b_lt ec e (by omega) (by omega) (fun h => ?_) (fun h => q0 (fun z => by have := z.2 k (by omega); omega))
      refine hX _ _ _ _ _ _ _ ?_
      have h9 := ih (k + 1) (by omega) (by omega) (fun i hi => by
        by_cases ei : i = k
        · rw [ei]; exact h
        · exact hl i (by omega))
      rw [tS, ← bit_or _ (by omega) _ (by omega), ← ec, ← nI_1 k] at h9
      exact h9
  refine hX _ _ _ _ _ _ _ ?_
  exact loop _ 0 rfl (Nat.zero_le _) (fun i hi => absurd hi (by omega))
theorem c_clear (hq : Q (.inl none) sh_8 (mput σ 0 3 (nI 0))) : mD (d + 1) 333 [.ref 0] sh_8 σ Q := by
  refine ⟨rfl, fun X hX => ?_⟩
  refine hX _ _ _ _ _ _ _ ?_
  exact hq
end ROC
section ROM
variable {d : Nat} {σ : mSg} {Q : mPst} {n nc ns nd : Nat}
/-- the model's world behind a round: the tape is clear -/
def MR (σ : mSg) (th : Int32) (σ' : mSg) : Prop := σ' 1 = σ 1 ∧ σ' 2 = σ 2 ∧ σ' 4 = σ 4 ∧ σ' 5 = σ 5 ∧ σ' 0 0 = th ∧ σ' 0 3 = σ 0 3 ∧ σ' 0 6 = σ 0 6 ∧ σ' 0 8 = nI 0 ∧ σ' 0 12 = σ 0 12 ∧ k15 σ σ'
theorem g_round {t : Nat} {B : Nat → Nat} (hB : BD (σ 1) n nc ns nd) (h8 : σ 0 8 = nI t) (ht : t ≤ 400) (hb : ∀ k, k < t → σ 5 k = nI (B k) ∧ B k < 256) (q1 : t ≤ 6 → (∀ k, k < t → B k < n) → ∀ σ', MR σ (nI 0) σ' → Q (.inl (some (.int (nI (mWh (σ 1) n (tS B t)))))) sh_10 σ') (q0 : ¬ (t ≤ 6 ∧ ∀ k, k < t → B k < n) → ∀ σ', MR σ (nI 1) σ' → Q (.inl (some (.int (nI 0)))) sh_10 σ') : mD (d + 4) 178 [.ref 0] sh_10 σ Q := by
  have hn := hB.1.2
  have h2n : 2 ^ n ≤ 128 := Nat.pow_le_pow_right (by omega) hn
  refine ⟨rfl, fun X hX => ?_⟩
  have bad : ¬ (t ≤ 6 ∧ ∀ k, k < t → B k < n) → ∀ x, X 85 [some (.ref 0), none, some (.int (nI 0)), some (.int x), none] [] sh_10 (mput σ 0 8 (nI 0)) 0 0 := by
    intro hno x
    refine hX _ _ _ _ _ _ _ ?_
    refine ⟨fun _ => ?_, fun z => absurd rfl z⟩
    refine hX _ _ _ _ _ _ _ ?_
    refine hX _ _ _ _ _ _ _ ?_
    refine ⟨fun z => absurd (show nI 1 ≤ 0 from z) (by decide +kernel), fun _ => ?_⟩
    exact q0 hno (mput (mput σ 0 8 (nI 0)) 0 0 (nI 1)) ⟨rfl, rfl, rfl, rfl, rfl, rfl, rfl, rfl, rfl, fun z => z⟩
  have bad27 : ¬ (t ≤ 6 ∧ ∀ k, k < t → B k < n) → ∀ k x, X 27 [some (.ref 0), some (.int (nI t)), some (.int (nI 0)), some (.int x), some (.int (nI k))] [] sh_10 (mput σ 0 8 (nI 0)) 0 0 := by
    intro hno k x
    refine hX _ _ _ _ _ _ _ ?_
    refine ⟨fun _ => bad hno x, fun _ => ?_⟩
    exact ⟨fun _ => bad hno x, fun z => absurd rfl z⟩
  have loop : t ≤ 6 → ∀ r k, t - k = r → k ≤ t → (∀ i, i < k → B i < n) → X 27 [some (.ref 0), some (.int (nI t)), some (.int (nI 1)), some (.int (nI (tS B k))), some (.int (nI k))] [] sh_10 (mput σ 0 8 (nI 0)) 0 0 := by
    intro h6 r
    induction r with
    | zero =>
      intro k hr hk hl
      have ek : k = t := by omega
      rw [ek] at hl ⊢
      have hts := tS_lt t hl
      refine hX _ _ _ _ _ _ _ ?_
      refine b_ge rfl rfl (by omega) (by omega) (fun _ => ?_) (fun h => by omega)
      refine hX _ _ _ _ _ _ _ ?_
      refine ⟨fun z => absurd z (by decide +kernel), fun _ => ?_⟩
      refine hX _ _ _ _ _ _ _ ?_
      refine ⟨fun _ => ?_, fun z => absurd (show nI 0 ≤ 0 from by decide +kernel) z⟩
      refine hX _ _ _ _ _ _ _ ?_
      refine g_allLoops (σ := mput (mput σ 0 8 (nI 0)) 0 0 (nI 0)) hB (fun σ2 hA => ?_)
      refine ⟨vp_in_nI (n := tS B t) (by omega) (by omega), ?_⟩
      have e : nI (mWh (σ 1) n (tS B t)) = σ2 8 (nI (tS B t)).toNatClampNeg := by
        rw [nI_clamp (by omega)]
        exact (hA.2.1 _ hts).symm
      refine qi e (q1 h6 hl _ ?_)
      have c0 : σ2 0 = mput (mput σ 0 8 (nI 0)) 0 0 (nI 0) 0 := hA.1 0 (by omega) (by omega)
      exact ⟨hA.1 1 (by omega) (by omega), hA.1 2 (by omega) (by omega), hA.1 4 (by omega) (by omega), hA.1 5 (by omega) (by omega), congrFun c0 0, congrFun c0 3, congrFun c0 6, congrFun c0 8, congrFun c0 12, k15.e (congrFun c0 15)⟩
    | succ r ih =>
      intro k hr hk hl
      have hbk := hb k (by omega)
      have ec : σ 5 (nI k).toNatClampNeg = nI (B k) := by rw [nI_clamp (by omega)]; exact hbk.1
      have hts := tS_lt k hl
      refine hX _ _ _ _ _ _ _ ?_
      refine b_ge rfl rfl (by omega) (by omega) (fun h => by omega) (fun _ => ?_)
      refine ⟨fun z => absurd z (by decide +kernel), fun _ => ?_⟩
      refine ⟨vp_in_nI (n := k) (by omega) (by omega), ?_⟩
      refine ⟨vp_in_nI (n := 3) (by omega) (by omega), ?_⟩
      refine b_ge ec hB.1.1 (by omega) (by omega) (fun h => ?_) (fun h => ?_)
      · refine hX _ _ _ _ _ _ _ ?_
        refine hX _ _ _ _ _ _ _ ?_
        refine ⟨fun _ => ?_, fun z => absurd rfl z⟩
        refine hX _ _ _ _ _ _ _ ?_
        refine hX _ _ _ _ _ _ _ ?_
        have h9 := bad27 (fun z => by have := z.2 k (by omega); omega) (k + 1) (nI (tS B k) ||| nI 0)
        rw [← nI_1 k] at h9
        exact h9
      · refine hX _ _ _ _ _ _ _ ?_
        refine ⟨fun z => absurd z (by decide +kernel), fun _ => ?_⟩
        refine ⟨vp_in_nI (n := k) (by omega) (by omega), ?_⟩
        refine hX _ _ _ _ _ _ _ ?_
        have h9 := ih (k + 1) (by omega) (by omega) (fun i hi => by
          by_cases ei : i = k
          · rw [ei]; exact h
          · exact hl i (by omega))
        rw [tS, ← bit_or _ (by omega) _ (by omega), ← ec, ← nI_1 k] at h9
        exact h9
  refine hX _ _ _ _ _ _ _ ?_
  refine b_gt h8 (b := 6) rfl (by omega) (by omega) (fun h => ?_) (fun h => ?_)
  · refine hX _ _ _ _ _ _ _ ?_
    refine hX _ _ _ _ _ _ _ ?_
    have h9 := bad27 (fun z => by omega) 0 (nI 0)
    rw [← h8] at h9
    exact h9
  · refine hX _ _ _ _ _ _ _ ?_
    have h9 := loop h _ 0 rfl (Nat.zero_le _) (fun i hi => absurd hi (by omega))
    rw [← h8] at h9
    exact h9
end ROM
