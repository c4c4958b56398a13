/-! THE CLASS: the tape is fed and cut; what a cart reaches -/
section CFE
variable {d : Nat} {σ : mSg} {m : Nat → Int32} {Q : mPst} {n nc ns nd : Nat}
/-- the class's world behind a feed -/
def FC (σ : mSg) (t : Nat) (a b c e f : Int32) (k : Nat) (σ' : mSg) : Prop := σ' 1 3 = nI (t + k) ∧ (∀ i, i < t → σ' 2 i = σ 2 i) ∧ (∀ i, i < k → σ' 2 (t + i) = fB (fW a b c e f i) (i % 4)) ∧ ∀ c, c < 1 ∨ 5 ≤ c → σ' c = σ c
theorem FC.step {t k : Nat} {a b c e f x : Int32} {W σ2 : mSg} (h : FC σ t a b c e f k W) (hk : k % 4 = 0) (hx : ∀ j, j < 4 → fW a b c e f (k + j) = x) (h2 : TA (fun j => W (mgl [(1, 4)] j)) (t + k) x σ2) : FC σ t a b c e f (k + 4) (mback [(1, 4)] W σ2) := by
  obtain ⟨w1, w2, w3, w4⟩ := h
  obtain ⟨u1, u2, u3⟩ := h2
  refine ⟨u1, fun i hi => ?_, fun i hi => ?_, fun c hc => ?_⟩
  · exact (u2 i (by omega)).trans (w2 i hi)
  · by_cases e : i < k
    · exact (u2 (t + i) (by omega)).trans (w3 i e)
    · obtain ⟨j, rfl⟩ : ∃ j, i = k + j := ⟨i - k, by omega⟩
      rw [hx j (by omega), show (k + j) % 4 = j by omega, ← Nat.add_assoc]
      exact u3 j (by omega)
  · rw [mback_out (by omega)]
    exact w4 c hc
set_option maxRecDepth 100000 in
theorem c_yfeed {t : Nat} {a b c e f : Int32} (h3 : σ 1 3 = nI t) (ht : t ≤ 400) (q1 : t + 20 ≤ 400 → ∀ σ', FC σ t a b c e f 20 σ' → Q (.inl (some (.int (nI (t + 20))))) sh_9 σ') (q0 : 400 < t + 20 → Q (.inl (some (.int (-(nI 1))))) sh_9 σ) : mD (d + 2) 1 [.ref 0, .int a, .int b, .int c, .int e, .int f] sh_9 σ Q := by
  refine ⟨rfl, fun X hX => ?_⟩
  refine hX _ _ _ _ _ _ _ ?_
  refine c_hasRoom (t := t) h3 ht (fun h => ?_) (fun h => ?_)
  · refine ⟨fun _ => ?_, fun z => absurd z (by decide +kernel)⟩
    refine hX _ _ _ _ _ _ _ ?_
    have w0 : FC σ t a b c e f 0 (mback [(1, 4)] σ (fun j => σ (mgl [(1, 4)] j))) := by
      rw [same1]
      exact ⟨h3, fun _ _ => rfl, fun i hi => absurd hi (by omega), fun _ _ => rfl⟩
    refine c_append w0.1 (by omega) (fun σ2 h2 => ?_)
    have w1 := w0.step rfl (fun j hj => by unfold fW; rw [if_pos (by omega)]) h2
    refine c_append w1.1 (by omega) (fun σ2 h2 => ?_)
    have w2 := w1.step rfl (fun j hj => by unfold fW; rw [if_neg (by omega), if_pos (by omega)]) h2
    refine c_append w2.1 (by omega) (fun σ2 h2 => ?_)
    have w3 := w2.step rfl (fun j hj => by unfold fW; rw [if_neg (by omega), if_neg (by omega), if_pos (by omega)]) h2
    refine c_append w3.1 (by omega) (fun σ2 h2 => ?_)
    have w4 := w3.step rfl (fun j hj => by unfold fW; rw [if_neg (by omega), if_neg (by omega), if_neg (by omega), if_pos (by omega)]) h2
    refine c_append w4.1 (by omega) (fun σ2 h2 => ?_)
    have w5 := w4.step rfl (fun j hj => by unfold fW; rw [if_neg (by omega), if_neg (by omega), if_neg (by omega), if_neg (by omega)]) h2
    exact qi w5.1.symm (q1 h _ w5)
  · refine ⟨fun z => absurd rfl z, fun _ => ?_⟩
    exact qw (Q := Q) same1 (q0 h)
set_option maxRecDepth 100000 in
theorem c_yend {t : Nat} {p : Int32} (h3 : σ 1 3 = nI t) (ht : t ≤ 400) (q1 : ∀ k, k ≤ t → p = nI k → ∀ σ', σ' 1 3 = nI k → σ' 2 = σ 2 → (∀ c, c < 1 ∨ 5 ≤ c → σ' c = σ c) → Q (.inl (some (.int (nI 1)))) sh_9 σ') (q0 : (¬ ∃ k, k < t + 1 ∧ p = nI k) → Q (.inl (some (.int (nI 0)))) sh_9 σ) : mD (d + 2) 2 [.ref 0, .int p] sh_9 σ Q := by
  refine ⟨rfl, fun X hX => ?_⟩
  refine hX _ _ _ _ _ _ _ ?_
  refine c_cut (t := t) h3 ht (fun k hk e => ?_) (fun h => ?_)
  · exact ⟨Or.inr rfl, q1 k hk e _ rfl rfl (fun c hc => mback_out (k := 1) (n := 4) (by omega))⟩
  · exact ⟨Or.inl rfl, qw (Q := Q) same1 (q0 h)⟩
/-- what a cart reaches -/
def rcB (m : Nat → Int32) (c s : Nat) : Bool := decide (nI 2 * sWay m (some s) none ≤ m (84 + 2 * c))
theorem rcB_iff {m : Nat → Int32} {c s : Nat} : rcB m c s = true ↔ sReach m c s := decide_eq_true_iff
def sRch (m : Nat → Int32) (n c : Nat) : Int32 := sSet (rcB m c) n
set_option maxRecDepth 100000 in
theorem c_reachedBy {c : Nat} (hc : c < 3) (hB : BD m n nc ns nd) (hR : RYs σ m) (hq : Q (.inl (some (.int (sRch m n c)))) sh_9 σ) : mD (d + 4) 64 [.ref 0, .int (nI c)] sh_9 σ Q := by
  have hn := hB.1.2
  refine ⟨rfl, fun X hX => ?_⟩
  unfold sRch at hq
  generalize hP : rcB m c = P at hq
  have loop : ∀ j k W, n - k = j → k ≤ n → W = σ → X 4 [some (.ref 0), some (.int (nI c)), some (.int (sSet P k)), some (.int (nI k))] [] sh_9 W 0 0 := by
    intro j
    induction j with
    | zero =>
      intro k W hj hk hW
      subst hW
      have e : W 5 7 = nI n := (hR.g rf0.1).trans hB.1.1
      have ek : k = n := by omega
      subst ek
      refine hX _ _ _ _ _ _ _ ?_
      refine b_ge rfl e (by omega) (by omega) (fun _ => ?_) (fun h => by omega)
      refine hX _ _ _ _ _ _ _ ?_
      exact hq
    | succ j ih =>
      intro k W hj hk hW
      have e : W 5 7 = nI n := by rw [hW]; exact (hR.g rf0.1).trans hB.1.1
      refine hX _ _ _ _ _ _ _ ?_
      refine b_ge rfl e (by omega) (by omega) (fun h => by omega) (fun _ => ?_)
      refine c_isReached hc (by omega) (qs hW hR) (fun hr => ?_) (fun hr => ?_)
      · refine ⟨fun z => absurd z (by decide +kernel), fun _ => ?_⟩
        refine hX _ _ _ _ _ _ _ ?_
        have h9 := ih (k + 1) _ (by omega) (by omega) (qn hW)
        rw [sSet, if_pos (show P k = true by rw [← hP]; exact rcB_iff.mpr hr), ← nI_1 k] at h9
        exact h9
      · refine ⟨fun _ => ?_, fun z => absurd rfl z⟩
        refine hX _ _ _ _ _ _ _ ?_
        have h9 := ih (k + 1) _ (by omega) (by omega) (qn hW)
        rw [sSet, if_neg (show ¬ P k = true by rw [← hP]; exact fun z => hr (rcB_iff.mp z)), ← nI_1 k] at h9
        exact h9
  refine hX _ _ _ _ _ _ _ ?_
  exact loop _ 0 σ rfl (Nat.zero_le _) rfl
end CFE
section MRE
variable {d : Nat} {σ : mSg} {Q : mPst} {n nc ns nd : Nat}
theorem g_reached {c : Nat} (hc : c < 3) (hB : BD (σ 1) n nc ns nd) (hq : Q (.inl (some (.int (sRch (σ 1) n c)))) sh_10 σ) : mD (d + 3) 152 [.ref 0, .int (nI c)] sh_10 σ Q := by
  have hn := hB.1.2
  refine ⟨rfl, fun X hX => ?_⟩
  unfold sRch at hq
  generalize hP : rcB (σ 1) c = P at hq
  have loop : ∀ j k, n - k = j → k ≤ n → X 4 [some (.ref 0), some (.int (nI c)), some (.int (sSet P k)), some (.int (nI k))] [] sh_10 σ 0 0 := by
    intro j
    induction j with
    | zero =>
      intro k hj hk
      have ek : k = n := by omega
      subst ek
      refine hX _ _ _ _ _ _ _ ?_
      refine ⟨vp_in_nI (n := 3) (by omega) (by omega), ?_⟩
      refine b_ge rfl hB.1.1 (by omega) (by omega) (fun _ => ?_) (fun h => by omega)
      refine hX _ _ _ _ _ _ _ ?_
      exact hq
    | succ j ih =>
      intro k hj hk
      have h9 := ih (k + 1) (by omega) (by omega)
      refine hX _ _ _ _ _ _ _ ?_
      refine ⟨vp_in_nI (n := 3) (by omega) (by omega), ?_⟩
      refine b_ge rfl hB.1.1 (by omega) (by omega) (fun h => by omega) (fun _ => ?_)
      refine g_wayOf (s := none) (o := some k) (fun q h => by cases h) (fun q h => by cases h; omega) ?_
      refine g_goesFar hc ?_
      refine ⟨fun h => ?_, fun h => ?_⟩
      · refine hX _ _ _ _ _ _ _ ?_
        refine hX _ _ _ _ _ _ _ ?_
        have hp : ¬ P k = true := by
          rw [← hP]
          refine fun z => absurd (rcB_iff.mp z) (Int32.not_le.mpr ?_)
          rw [sWay_comm]
          exact h
        rw [set_or0 hp, ← nI_1 k] at h9
        exact h9
      · refine hX _ _ _ _ _ _ _ ?_
        have hp : P k = true := by
          rw [← hP]
          refine rcB_iff.mpr (Int32.not_lt.mp ?_)
          rw [sWay_comm]
          exact h
        rw [sSet, if_pos hp, ← nI_1 k] at h9
        exact h9
  refine hX _ _ _ _ _ _ _ ?_
  exact loop _ 0 rfl (Nat.zero_le _)
end MRE
