/-! BOTH SIDES: the tape is fed and cut -/
theorem sh_eq {x : Int32} {s : Nat} (hs : s ≤ 24) : ((x.toUInt32 >>> ((nI s).toUInt32 &&& Int32.toUInt32 31)).toInt32) &&& nI 255 = (x >>> (nI s &&& 31)) &&& nI 255 := by
  refine b_ext (fun i hi => ?_)
  rw [b_and, b_and, b_ushr s (by omega), b_sshr s (by omega) x hi, show nI 255 = 255 from rfl, b_255]
  by_cases h : i < 8
  · rw [if_pos (by omega)]
  · rw [show decide (i < 8) = false from decide_eq_false h, Bool.and_false, Bool.and_false]
/-- byte j of a word -/
def fB (x : Int32) (j : Nat) : Int32 := (x >>> (nI (24 - 8 * j) &&& 31)) &&& nI 255
/-- the words of a feed -/
def fW (a b c e f : Int32) (i : Nat) : Int32 := if i < 4 then a else if i < 8 then b else if i < 12 then c else if i < 16 then e else f
section FEE
variable {d : Nat} {σ : mSg} {Q : mPst}
theorem c_hasRoom {t : Nat} (h3 : σ 0 3 = nI t) (ht : t ≤ 400) (q1 : t + 20 ≤ 400 → Q (.inl (some (.int (nI 1)))) sh_8 σ) (q0 : 400 < t + 20 → Q (.inl (some (.int (nI 0)))) sh_8 σ) : mD (d + 1) 330 [.ref 0] sh_8 σ Q := by
  have e : σ 0 3 + nI 20 = nI (t + 20) := by rw [h3, nI_add]
  refine ⟨rfl, fun X hX => ?_⟩
  refine hX _ _ _ _ _ _ _ ?_
  refine b_gt e (b := 400) rfl (by omega) (by omega) (fun h => ?_) (fun h => ?_)
  · refine hX _ _ _ _ _ _ _ ?_
    refine hX _ _ _ _ _ _ _ ?_
    exact ⟨Or.inl rfl, q0 h⟩
  · refine hX _ _ _ _ _ _ _ ?_
    exact ⟨Or.inr rfl, q1 h⟩
/-- four bytes more -/
def TA (σ : mSg) (t : Nat) (x : Int32) (σ' : mSg) : Prop := σ' 0 3 = nI (t + 4) ∧ (∀ k, k < t → σ' 1 k = σ 1 k) ∧ ∀ j, j < 4 → σ' 1 (t + j) = fB x j
theorem c_append {t : Nat} {x : Int32} (h3 : σ 0 3 = nI t) (ht : t + 4 ≤ 400) (hq : ∀ σ', TA σ t x σ' → Q (.inl none) sh_8 σ') : mD (d + 1) 331 [.ref 0, .int x] sh_8 σ Q := by
  refine ⟨rfl, fun X hX => ?_⟩
  have step : ∀ (W : mSg) (u : Nat) (s : Nat), s ≤ 24 → W 0 3 = nI u → u < 400 → X 3 [some (.ref 0), some (.int x), some (.int (nI s - nI 8))] [] sh_8 (mput (mput W 1 u ((x >>> (nI s &&& 31)) &&& nI 255)) 0 3 (nI (u + 1))) 0 0 → X 3 [some (.ref 0), some (.int x), some (.int (nI s))] [] sh_8 W 0 0 := by
    intro W u s hs e hu h9
    refine hX _ _ _ _ _ _ _ ?_
    refine ⟨fun z => absurd z (nI_pos (by omega)), fun _ => ?_⟩
    refine b_ge e (b := 400) rfl (by omega) (by omega) (fun h => by omega) (fun _ => ?_)
    refine ⟨vin e hu (by omega), ?_⟩
    rw [← nI_1 u, ← e, ← clN e (by omega)] at h9
    exact h9
  refine hX _ _ _ _ _ _ _ ?_
  refine step σ t 24 (by omega) h3 (by omega) ?_
  refine step _ (t + 1) 16 (by omega) rfl (by omega) ?_
  refine step _ (t + 2) 8 (by omega) rfl (by omega) ?_
  refine step _ (t + 3) 0 (by omega) rfl (by omega) ?_
  refine hX _ _ _ _ _ _ _ ?_
  refine ⟨fun _ => ?_, fun z => absurd (show nI 0 - nI 8 < 0 from by decide +kernel) z⟩
  refine hX _ _ _ _ _ _ _ ?_
  refine hq _ ⟨rfl, fun k hk => ?_, fun j hj => ?_⟩
  · show upd (upd (upd (upd (σ 1) t _) (t + 1) _) (t + 2) _) (t + 3) _ k = σ 1 k
    rw [upd_off (by omega), upd_off (by omega), upd_off (by omega), upd_off (by omega)]
  · show upd (upd (upd (upd (σ 1) t (fB x 0)) (t + 1) (fB x 1)) (t + 2) (fB x 2)) (t + 3) (fB x 3) (t + j) = fB x j
    have hj4 : j = 0 ∨ j = 1 ∨ j = 2 ∨ j = 3 := by omega
    rcases hj4 with rfl | rfl | rfl | rfl
    · rw [upd_off (by omega), upd_off (by omega), upd_off (by omega)]; exact if_pos rfl
    · rw [upd_off (by omega), upd_off (by omega)]; exact if_pos rfl
    · rw [upd_off (by omega)]; exact if_pos rfl
    · exact if_pos rfl
theorem c_cut {t : Nat} {p : Int32} (h3 : σ 0 3 = nI t) (ht : t ≤ 400) (q1 : ∀ k, k ≤ t → p = nI k → Q (.inl (some (.int (nI 1)))) sh_8 (mput σ 0 3 (nI k))) (q0 : (¬ ∃ k, k < t + 1 ∧ p = nI k) → Q (.inl (some (.int (nI 0)))) sh_8 σ) : mD (d + 1) 332 [.ref 0, .int p] sh_8 σ Q := by
  refine ⟨rfl, fun X hX => ?_⟩
  have bad : (¬ ∃ k, k < t + 1 ∧ p = nI k) → X 12 [none, none] [] sh_8 σ 0 0 := by
    intro h
    refine hX _ _ _ _ _ _ _ ?_
    exact ⟨Or.inl rfl, q0 h⟩
  refine hX _ _ _ _ _ _ _ ?_
  rcases pk_ix p (n := t + 1) (by omega) with h | h | ⟨k, hk, rfl⟩
  · exact ⟨fun _ => bad (rng_no (by omega) (Or.inl h)), fun z => absurd h z⟩
  · refine ⟨fun _ => bad (rng_no (by omega) (Or.inr h)), fun _ => ⟨fun z => ?_, fun _ => bad (rng_no (by omega) (Or.inr h))⟩⟩
    have z : p ≤ σ 0 3 := z
    rw [h3] at z
    exact absurd (Int32.le_trans h z) (fun y => by rw [nI_leI (by omega) (by omega)] at y; omega)
  · refine ⟨fun z => absurd z (nI_pos (by omega)), fun _ => ?_⟩
    refine b_le rfl h3 (by omega) (by omega) (fun _ => ?_) (fun z => by omega)
    refine hX _ _ _ _ _ _ _ ?_
    exact ⟨Or.inr rfl, q1 k (by omega) rfl⟩
end FEE
section FEM
variable {d : Nat} {σ : mSg} {Q : mPst}
theorem g_end {t : Nat} {p : Int32} (h8 : σ 0 8 = nI t) (ht : t ≤ 400) (q1 : ∀ k, k ≤ t → p = nI k → Q (.inl (some (.int (nI 1)))) sh_10 (mput (mput σ 0 0 (nI 0)) 0 8 (nI k))) (q0 : (¬ ∃ k, k < t + 1 ∧ p = nI k) → Q (.inl (some (.int (nI 0)))) sh_10 (mput σ 0 0 (nI 0))) : mD (d + 2) 96 [.ref 0, .int p] sh_10 σ Q := by
  refine ⟨rfl, fun X hX => ?_⟩
  refine hX _ _ _ _ _ _ _ ?_
  refine g_isIn (fun h => ?_) (fun h => ?_)
  · have h : sIn p (nI 0) (σ 0 8) := h
    rw [h8, sIn0_iff (by omega)] at h
    obtain ⟨k, hk, rfl⟩ := h
    refine ⟨fun _ => ?_, fun z => absurd z (by decide +kernel)⟩
    refine hX _ _ _ _ _ _ _ ?_
    exact ⟨Or.inr rfl, q1 k (by omega) rfl⟩
  · have h : ¬ sIn p (nI 0) (σ 0 8) := h
    rw [h8, sIn0_iff (by omega)] at h
    refine ⟨fun z => absurd rfl z, fun _ => ?_⟩
    exact ⟨Or.inl rfl, q0 h⟩
/-- the model's world behind a feed -/
def FD (σ : mSg) (t : Nat) (a b c e f : Int32) (k : Nat) (σ' : mSg) : Prop := σ' 0 8 = nI (t + k) ∧ (∀ i, i < t → σ' 5 i = σ 5 i) ∧ (∀ i, i < k → σ' 5 (t + i) = fB (fW a b c e f i) (i % 4)) ∧ (∀ c, c ≠ 0 → c ≠ 5 → σ' c = σ c) ∧ σ' 0 0 = nI 0 ∧ ∀ i, i ≠ 0 → i ≠ 8 → σ' 0 i = σ 0 i
theorem g_feed {t : Nat} {a b c e f : Int32} (h8 : σ 0 8 = nI t) (ht : t ≤ 400) (q1 : t + 20 ≤ 400 → ∀ σ', FD σ t a b c e f 20 σ' → Q (.inl (some (.int (nI (t + 20))))) sh_10 σ') (q0 : 400 < t + 20 → Q (.inl (some (.int (-(nI 1))))) sh_10 (mput σ 0 0 (nI 0))) : mD (d + 1) 95 [.ref 0, .int a, .int b, .int c, .int e, .int f] sh_10 σ Q := by
  have e20 : σ 0 8 + nI 20 = nI (t + 20) := by rw [h8, nI_add]
  refine ⟨rfl, fun X hX => ?_⟩
  have loop : t + 20 ≤ 400 → ∀ r k W, 20 - k = r → k ≤ 20 → FD σ t a b c e f k W → X 23 [some (.ref 0), some (.int a), some (.int b), some (.int c), some (.int e), some (.int f), some (.int (nI k)), none] [] sh_10 W 0 0 := by
    intro h20 r
    induction r with
    | zero =>
      intro k W hr hk hW
      have ek : k = 20 := by omega
      subst ek
      refine hX _ _ _ _ _ _ _ ?_
      refine b_ge rfl (b := 20) rfl (by omega) (by omega) (fun _ => ?_) (fun h => by omega)
      refine hX _ _ _ _ _ _ _ ?_
      exact qi hW.1.symm (q1 h20 _ hW)
    | succ r ih =>
      intro k W hr hk hW
      obtain ⟨w1, w2, w3, w4, w5, w6⟩ := hW
      have fin : ∀ x, x = fW a b c e f k → X 76 [some (.ref 0), some (.int a), some (.int b), some (.int c), some (.int e), some (.int f), some (.int (nI k)), none] [.int x] sh_10 W 0 0 := by
        intro x hx
        refine hX _ _ _ _ _ _ _ ?_
        refine ⟨by decide +kernel, ?_⟩
        refine ⟨vin w1 (by omega) (by omega), ?_⟩
        have em : nI 24 - nI 8 * (nI k - nI k / nI 4 * nI 4) = nI (24 - 8 * (k % 4)) := by
          have : ∀ k, k < 20 → nI 24 - nI 8 * (nI k - nI k / nI 4 * nI 4) = nI (24 - 8 * (k % 4)) := by decide +kernel
          exact this k (by omega)
        have h9 := ih (k + 1) (mput (mput W 5 (t + k) (fB x (k % 4))) 0 8 (nI (t + k + 1))) (by omega) (by omega) ?_
        · rw [fB, ← sh_eq (by omega), ← em, ← nI_1 (t + k), ← nI_1 k, ← w1] at h9
          rw [← clN w1 (by omega)] at h9
          exact h9
        · refine ⟨rfl, fun i hi => ?_, fun i hi => ?_, fun c h1 h2 => ?_, w5, fun i h1 h2 => ?_⟩
          · exact (upd_off (show i ≠ t + k by omega)).trans (w2 i hi)
          · by_cases ei : i = k
            · subst ei
              show upd (W 5) (t + i) (fB x (i % 4)) (t + i) = _
              rw [← hx]
              exact if_pos rfl
            · exact (upd_off (show t + i ≠ t + k by omega)).trans (w3 i (by omega))
          · rw [mput_ne h1, mput_ne h2]
            exact w4 c h1 h2
          · exact (upd_off h2).trans (w6 i h1 h2)
      refine hX _ _ _ _ _ _ _ ?_
      refine b_ge rfl (b := 20) rfl (by omega) (by omega) (fun h => by omega) (fun _ => ?_)
      refine b_ge rfl (b := 4) rfl (by omega) (by omega) (fun g1 => ?_) (fun g1 => fin _ (by unfold fW; rw [if_pos g1]))
      refine hX _ _ _ _ _ _ _ ?_
      refine b_ge rfl (b := 8) rfl (by omega) (by omega) (fun g2 => ?_) (fun g2 => fin _ (by unfold fW; rw [if_neg (by omega), if_pos g2]))
      refine hX _ _ _ _ _ _ _ ?_
      refine b_ge rfl (b := 12) rfl (by omega) (by omega) (fun g3 => ?_) (fun g3 => fin _ (by unfold fW; rw [if_neg (by omega), if_neg (by omega), if_pos g3]))
      refine hX _ _ _ _ _ _ _ ?_
      refine b_ge rfl (b := 16) rfl (by omega) (by omega) (fun g4 => ?_) (fun g4 => fin _ (by unfold fW; rw [if_neg (by omega), if_neg (by omega), if_neg (by omega), if_pos g4]))
      refine hX _ _ _ _ _ _ _ ?_
      exact fin _ (by unfold fW; rw [if_neg (by omega), if_neg (by omega), if_neg (by omega), if_neg (by omega)])
  refine hX _ _ _ _ _ _ _ ?_
  refine b_le e20 (b := 400) rfl (by omega) (by omega) (fun h => ?_) (fun h => ?_)
  · refine hX _ _ _ _ _ _ _ ?_
    exact loop h _ 0 _ rfl (by omega) ⟨h8, fun _ _ => rfl, fun i hi => absurd hi (by omega), fun c h1 h2 => mput_ne h1, rfl, fun i h1 h2 => upd_off h1⟩
  · exact q0 h
end FEM
