/-! THE MODEL: what was ahead of acts; the image -/
def MM (σ : mSg) (a : Nat) (row : Nat → Nat → Int32) : Prop := σ 0 6 = nI a ∧ a ≤ 12 ∧ ∀ j i, j < a → i < 423 → σ 4 (423 * (a - 1 - j) + i) = row j i
/-- behind an act -/
def MA (σ : mSg) (f : Nat → Int32) (th : Int32) (a : Nat) (row : Nat → Nat → Int32) (σ' : mSg) : Prop := σ' 1 = f ∧ MM σ' a row ∧ σ' 2 = σ 2 ∧ σ' 5 = σ 5 ∧ σ' 0 0 = th ∧ σ' 0 3 = σ 0 3 ∧ σ' 0 8 = σ 0 8 ∧ σ' 0 12 = σ 0 12 ∧ k15 σ σ'
theorem MM.mx {σ σ' : mSg} {a : Nat} {row : Nat → Nat → Int32} (h : MM σ a row) (h4 : σ' 4 = σ 4) (h6 : σ' 0 6 = σ 0 6) : MM σ' a row := by
  unfold MM
  rw [h4, h6]
  exact h
section MME
variable {d : Nat} {σ : mSg} {Q : mPst} {a : Nat} {row : Nat → Nat → Int32}
theorem g_remembers (hM : MM σ a row) (hq : ∀ σ', (∀ c, c ≠ 4 → c ≠ 0 → σ' c = σ c) → (∀ i, i ≠ 6 → σ' 0 i = σ 0 i) → MM σ' (min 12 (a + 1)) (psh (σ 1) row) → Q (.inl none) sh_10 σ') : mD (d + 1) 158 [.ref 0] sh_10 σ Q := by
  obtain ⟨h6, ha, hr⟩ := hM
  refine ⟨rfl, fun X hX => ?_⟩
  have two : ∀ b W, b ≤ 11 → b + 1 = min 12 (a + 1) → (∀ c, c ≠ 4 → c ≠ 0 → W c = σ c) → (∀ i, i ≠ 6 → W 0 i = σ 0 i) → W 0 6 = nI b → (∀ j i, j < b → i < 423 → W 4 (423 * (b - 1 - j) + i) = row j i) → X 50 [some (.ref 0), none] [] sh_10 W 0 0 := by
    intro b W hb hba w1 w2 w3 w4
    have loop : ∀ r k W2, 423 - k = r → k ≤ 423 → (∀ c, c ≠ 4 → W2 c = W c) → (∀ i, i < 423 * b → W2 4 i = W 4 i) → (∀ i, i < k → W2 4 (423 * b + i) = σ 1 i) → X 52 [some (.ref 0), some (.int (nI k))] [] sh_10 W2 0 0 := by
      intro r
      induction r with
      | zero =>
        intro k W2 hr2 hk u1 u2 u3
        have ek : k = 423 := by omega
        subst ek
        have e6 : W2 0 6 = nI b := by rw [u1 0 (by omega)]; exact w3
        refine hX _ _ _ _ _ _ _ ?_
        refine b_ge rfl (b := 423) rfl (by omega) (by omega) (fun _ => ?_) (fun h => by omega)
        refine hX _ _ _ _ _ _ _ ?_
        refine hq _ (fun c c4 c0 => ?_) (fun i hi => ?_) ⟨?_, by omega, fun j i hj hi => ?_⟩
        · rw [mput_ne c0, u1 c c4]; exact w1 c c4 c0
        · rw [mput_eq, upd_off hi, u1 0 (by omega)]; exact w2 i hi
        · show W2 0 6 + nI 1 = _
          rw [e6, nI_add, hba]
        · rw [mput_ne (by omega)]
          cases j with
          | zero =>
            rw [show 423 * (min 12 (a + 1) - 1 - 0) + i = 423 * b + i by omega]
            exact u3 i hi
          | succ j =>
            rw [show 423 * (min 12 (a + 1) - 1 - (j + 1)) + i = 423 * (b - 1 - j) + i by omega, u2 _ (by omega)]
            exact w4 j i (by omega) hi
      | succ r ih =>
        intro k W2 hr2 hk u1 u2 u3
        have e6 : W2 0 6 = nI b := by rw [u1 0 (by omega)]; exact w3
        have e : nI 423 * W2 0 6 + nI k = nI (423 * b + k) := by rw [e6, nI_mul, nI_add]
        have ew : mput W2 4 (nI 423 * W2 0 6 + nI k).toNatClampNeg (W2 1 (nI k).toNatClampNeg) = mput W2 4 (423 * b + k) (σ 1 k) := by
          rw [clN e (by omega), nI_clamp (by omega), u1 1 (by omega), w1 1 (by omega) (by omega)]
        have nxt : ∀ W3, W3 = mput W2 4 (423 * b + k) (σ 1 k) → X 52 [some (.ref 0), some (.int (nI k + nI 1))] [] sh_10 W3 0 0 := by
          intro W3 hW3
          rw [nI_add]
          refine ih (k + 1) W3 (by omega) (by omega) (fun c hc => ?_) (fun i hi => ?_) (fun i hi => ?_)
          · rw [hW3, mput_ne hc]; exact u1 c hc
          · rw [hW3, mput_eq, upd_off (by omega)]; exact u2 i hi
          · rw [hW3, mput_eq]
            by_cases e : i = k
            · rw [e, upd_at]
            · rw [upd_off (by omega)]; exact u3 i (by omega)
        refine hX _ _ _ _ _ _ _ ?_
        refine b_ge rfl (b := 423) rfl (by omega) (by omega) (fun h => by omega) (fun _ => ?_)
        refine ⟨vp_in_nI (by omega) (by omega), vin e (by omega) (by omega), ?_⟩
        exact nxt _ ew
    refine hX _ _ _ _ _ _ _ ?_
    exact loop _ 0 W rfl (by omega) (fun _ _ => rfl) (fun _ _ => rfl) (fun i hi => by omega)
  refine hX _ _ _ _ _ _ _ ?_
  refine b_ne h6 (b := 12) rfl (by omega) (by omega) (fun h => ?_) (fun h => ?_)
  · exact two a σ (by omega) (by omega) (fun _ _ _ => rfl) (fun _ _ => rfl) h6 (fun j i hj hi => hr j i hj hi)
  · subst h
    have loop : ∀ r k W2, 4653 - k = r → k ≤ 4653 → (∀ c, c ≠ 4 → W2 c = σ c) → (∀ i, i < k → W2 4 i = σ 4 (i + 423)) → (∀ i, k ≤ i → W2 4 i = σ 4 i) → X 11 [some (.ref 0), some (.int (nI k))] [] sh_10 W2 0 0 := by
      intro r
      induction r with
      | zero =>
        intro k W2 hr2 hk u1 u2 u3
        have ek : k = 4653 := by omega
        subst ek
        have e6 : W2 0 6 = nI 12 := by rw [u1 0 (by omega)]; exact h6
        refine hX _ _ _ _ _ _ _ ?_
        refine b_ge rfl (b := 4653) rfl (by omega) (by omega) (fun _ => ?_) (fun h => by omega)
        refine hX _ _ _ _ _ _ _ ?_
        refine two 11 _ (by omega) (by omega) (fun c c4 c0 => by rw [mput_ne c0]; exact u1 c c4) (fun i hi => by rw [mput_eq, upd_off hi, u1 0 (by omega)]) ?_ (fun j i hj hi => ?_)
        · show W2 0 6 - nI 1 = _
          rw [e6]; rfl
        · rw [mput_ne (by omega), u2 _ (by omega), show 423 * (11 - 1 - j) + i + 423 = 423 * (12 - 1 - j) + i by omega]
          exact hr j i (by omega) hi
      | succ r ih =>
        intro k W2 hr2 hk u1 u2 u3
        have e : nI k + nI 423 = nI (k + 423) := nI_add _ _
        have ew : mput W2 4 (nI k).toNatClampNeg (W2 4 (nI k + nI 423).toNatClampNeg) = mput W2 4 k (σ 4 (k + 423)) := by
          rw [clN e (by omega), nI_clamp (by omega), u3 _ (by omega)]
        have nxt : ∀ W3, W3 = mput W2 4 k (σ 4 (k + 423)) → X 11 [some (.ref 0), some (.int (nI k + nI 1))] [] sh_10 W3 0 0 := by
          intro W3 hW3
          rw [nI_add]
          refine ih (k + 1) W3 (by omega) (by omega) (fun c hc => ?_) (fun i hi => ?_) (fun i hi => ?_)
          · rw [hW3, mput_ne hc]; exact u1 c hc
          · rw [hW3, mput_eq]
            by_cases e : i = k
            · rw [e, upd_at]
            · rw [upd_off (by omega)]; exact u2 i (by omega)
          · rw [hW3, mput_eq, upd_off (by omega)]; exact u3 i (by omega)
        refine hX _ _ _ _ _ _ _ ?_
        refine b_ge rfl (b := 4653) rfl (by omega) (by omega) (fun h => by omega) (fun _ => ?_)
        refine ⟨vin e (by omega) (by omega), vp_in_nI (by omega) (by omega), ?_⟩
        exact nxt _ ew
    exact loop _ 0 σ rfl (by omega) (fun _ _ => rfl) (fun i hi => by omega) (fun _ _ => rfl)
theorem g_sets {k : Nat} {v x : Int32} (hv : v = nI k) (hk : k < 823) (hM : MM σ a row) (hq : ∀ σ', MA σ (upd (σ 1) k x) (σ 0 0) (min 12 (a + 1)) (psh (σ 1) row) σ' → Q (.inl (some (.int (σ 1 k)))) sh_10 σ') : mD (d + 2) 159 [.ref 0, .int v, .int x] sh_10 σ Q := by
  subst hv
  refine ⟨rfl, fun X hX => ?_⟩
  refine hX _ _ _ _ _ _ _ ?_
  refine g_remembers hM (fun W w1 w2 w3 => ?_)
  have e1 : W 1 = σ 1 := w1 1 (by omega) (by omega)
  refine ⟨vp_in_nI (by omega) (by omega), vp_in_nI (by omega) (by omega), ?_⟩
  refine qi ?_ (hq _ ⟨?_, w3.mx rfl rfl, w1 2 (by omega) (by omega), w1 5 (by omega) (by omega), w2 0 (by omega), w2 3 (by omega), w2 8 (by omega), w2 12 (by omega), k15.e (w2 15 (by omega))⟩)
  · show _ = W 1 (nI k).toNatClampNeg
    rw [nI_clamp (by omega), e1]
  · show upd (W 1) (nI k).toNatClampNeg x = _
    rw [nI_clamp (by omega), e1]
theorem g_undo (hM : MM σ a row) (q0 : a = 0 → ∀ σ', MX σ (σ 1) (nI 0) σ' → Q (.inl (some (.int (nI 0)))) sh_10 σ') (q1 : ∀ a', a = a' + 1 → ∀ σ' f, (∀ i, i < 423 → f i = row 0 i) → (∀ i, 423 ≤ i → f i = σ 1 i) → MA σ f (nI 0) a' (fun j => row (j + 1)) σ' → Q (.inl (some (.int (nI 1)))) sh_10 σ') : mD (d + 1) 222 [.ref 0] sh_10 σ Q := by
  obtain ⟨h6, ha, hr⟩ := hM
  refine ⟨rfl, fun X hX => ?_⟩
  refine hX _ _ _ _ _ _ _ ?_
  refine b_ne (show mput σ 0 0 (nI 0) 0 6 = nI a from h6) (b := 0) rfl (by omega) (by omega) (fun h => ?_) (fun h => ⟨Or.inl rfl, q0 h _ MX.th⟩)
  obtain ⟨a', rfl⟩ : ∃ a', a = a' + 1 := ⟨a - 1, by omega⟩
  have q1 := q1 a' rfl
  refine hX _ _ _ _ _ _ _ ?_
  have e7 : σ 0 6 - nI 1 = nI a' := by rw [h6, nI_sub (by omega), Nat.add_sub_cancel]
  have loop : ∀ r k W2, 423 - k = r → k ≤ 423 → (∀ c, c ≠ 1 → c ≠ 0 → W2 c = σ c) → (∀ i, i ≠ 6 → i ≠ 0 → W2 0 i = σ 0 i) → W2 0 6 = nI a' → W2 0 0 = nI 0 → (∀ i, i < k → W2 1 i = row 0 i) → (∀ i, k ≤ i → W2 1 i = σ 1 i) → X 26 [some (.ref 0), some (.int (nI k))] [] sh_10 W2 0 0 := by
    intro r
    induction r with
    | zero =>
      intro k W2 hr2 hk u1 u2 u6 u0 u3 u4
      have ek : k = 423 := by omega
      subst ek
      refine hX _ _ _ _ _ _ _ ?_
      refine b_ge rfl (b := 423) rfl (by omega) (by omega) (fun _ => ?_) (fun h => by omega)
      refine hX _ _ _ _ _ _ _ ?_
      refine ⟨Or.inr rfl, q1 W2 (W2 1) u3 u4 ⟨rfl, ⟨u6, by omega, fun j i hj hi => ?_⟩, u1 2 (by omega) (by omega), u1 5 (by omega) (by omega), u0, u2 3 (by omega) (by omega), u2 8 (by omega) (by omega), u2 12 (by omega) (by omega), k15.e (u2 15 (by omega) (by omega))⟩⟩
      rw [u1 4 (by omega) (by omega), show 423 * (a' - 1 - j) + i = 423 * (a' + 1 - 1 - (j + 1)) + i by omega]
      exact hr (j + 1) i (by omega) hi
    | succ r ih =>
      intro k W2 hr2 hk u1 u2 u6 u0 u3 u4
      have e : nI 423 * W2 0 6 + nI k = nI (423 * a' + k) := by rw [u6, nI_mul, nI_add]
      have ew : mput W2 1 (nI k).toNatClampNeg (W2 4 (nI 423 * W2 0 6 + nI k).toNatClampNeg) = mput W2 1 k (row 0 k) := by
        rw [clN e (by omega), nI_clamp (by omega), u1 4 (by omega) (by omega), show 423 * a' + k = 423 * (a' + 1 - 1 - 0) + k by omega, hr 0 k (by omega) (by omega)]
      have nxt : ∀ W3, W3 = mput W2 1 k (row 0 k) → X 26 [some (.ref 0), some (.int (nI k + nI 1))] [] sh_10 W3 0 0 := by
        intro W3 hW3
        rw [nI_add]
        refine ih (k + 1) W3 (by omega) (by omega) (fun c hc h0 => ?_) (fun i hi h0 => ?_) ?_ ?_ (fun i hi => ?_) (fun i hi => ?_)
        · rw [hW3, mput_ne hc]; exact u1 c hc h0
        · rw [hW3, mput_ne (by omega)]; exact u2 i hi h0
        · rw [hW3, mput_ne (by omega)]; exact u6
        · rw [hW3, mput_ne (by omega)]; exact u0
        · rw [hW3, mput_eq]
          by_cases e : i = k
          · rw [e, upd_at]
          · rw [upd_off (by omega)]; exact u3 i (by omega)
        · rw [hW3, mput_eq, upd_off (by omega)]; exact u4 i (by omega)
      refine hX _ _ _ _ _ _ _ ?_
      refine b_ge rfl (b := 423) rfl (by omega) (by omega) (fun h => by omega) (fun _ => ?_)
      refine ⟨vin e (by omega) (by omega), vp_in_nI (by omega) (by omega), ?_⟩
      exact nxt _ ew
  refine loop _ 0 _ rfl (by omega) (fun c h1 h0 => by rw [mput_ne h0, mput_ne h0]) (fun i h1 h0 => by rw [mput_eq, upd_off h1, mput_eq, upd_off h0]) e7 rfl (fun i hi => by omega) (fun i _ => rfl)
theorem g_image (hq : ∀ σ', σ' 1 = σ 1 → (∀ i, i < 823 → σ' 2 i = σ 1 i) → (∀ c, 4 ≤ c → c ≤ 5 → σ' c = σ c) → σ' 0 0 = nI 0 → σ' 0 3 = nI 1 → σ' 0 6 = σ 0 6 → σ' 0 8 = σ 0 8 → σ' 0 12 = σ 0 12 → k15 σ σ' → Q (.inl none) sh_10 σ') : mD (d + 1) 223 [.ref 0] sh_10 σ Q := by
  refine ⟨rfl, fun X hX => ?_⟩
  refine hX _ _ _ _ _ _ _ ?_
  have loop : ∀ r k W2, 823 - k = r → k ≤ 823 → (∀ c, c ≠ 2 → c ≠ 0 → W2 c = σ c) → (∀ i, i ≠ 0 → W2 0 i = σ 0 i) → W2 0 0 = nI 0 → (∀ i, i < k → W2 2 i = σ 1 i) → X 7 [some (.ref 0), some (.int (nI k))] [] sh_10 W2 0 0 := by
    intro r
    induction r with
    | zero =>
      intro k W2 hr2 hk u1 u2 u0 u3
      have ek : k = 823 := by omega
      subst ek
      refine hX _ _ _ _ _ _ _ ?_
      refine b_ge rfl (b := 823) rfl (by omega) (by omega) (fun _ => ?_) (fun h => by omega)
      refine hX _ _ _ _ _ _ _ ?_
      refine ⟨Or.inr rfl, ?_⟩
      exact hq _ (u1 1 (by omega) (by omega)) u3 (fun c h4 h5 => by rw [mput_ne (by omega)]; exact u1 c (by omega) (by omega)) u0 rfl (u2 6 (by omega)) (u2 8 (by omega)) (u2 12 (by omega)) (k15.e (u2 15 (by omega)))
    | succ r ih =>
      intro k W2 hr2 hk u1 u2 u0 u3
      have ew : mput W2 2 (nI k).toNatClampNeg (W2 1 (nI k).toNatClampNeg) = mput W2 2 k (σ 1 k) := by
        rw [nI_clamp (by omega), u1 1 (by omega) (by omega)]
      have nxt : ∀ W3, W3 = mput W2 2 k (σ 1 k) → X 7 [some (.ref 0), some (.int (nI k + nI 1))] [] sh_10 W3 0 0 := by
        intro W3 hW3
        rw [nI_add]
        refine ih (k + 1) W3 (by omega) (by omega) (fun c hc h0 => ?_) (fun i hi => ?_) ?_ (fun i hi => ?_)
        · rw [hW3, mput_ne hc]; exact u1 c hc h0
        · rw [hW3, mput_ne (by omega)]; exact u2 i hi
        · rw [hW3, mput_ne (by omega)]; exact u0
        · rw [hW3, mput_eq]
          by_cases e : i = k
          · rw [e, upd_at]
          · rw [upd_off (by omega)]; exact u3 i (by omega)
      refine hX _ _ _ _ _ _ _ ?_
      refine b_ge rfl (b := 823) rfl (by omega) (by omega) (fun h => by omega) (fun _ => ?_)
      refine ⟨vp_in_nI (by omega) (by omega), vp_in_nI (by omega) (by omega), ?_⟩
      exact nxt _ ew
  exact loop _ 0 _ rfl (by omega) (fun c h1 h0 => mput_ne h0) (fun i h0 => by rw [mput_eq, upd_off h0]) rfl (fun i hi => by omega)
theorem g_back {h : Nat} (h3 : σ 0 3 = nI h) (hh : h ≤ 1) (q0 : h = 0 → ∀ σ', MX σ (σ 1) (nI 0) σ' → Q (.inl (some (.int (nI 0)))) sh_10 σ') (q1 : h = 1 → ∀ σ', (∀ i, i < 823 → σ' 1 i = σ 2 i) → σ' 2 = σ 2 → σ' 5 = σ 5 → σ' 0 0 = nI 0 → σ' 0 3 = σ 0 3 → σ' 0 6 = nI 0 → σ' 0 8 = σ 0 8 → σ' 0 12 = σ 0 12 → k15 σ σ' → Q (.inl (some (.int (nI 1)))) sh_10 σ') : mD (d + 1) 224 [.ref 0] sh_10 σ Q := by
  refine ⟨rfl, fun X hX => ?_⟩
  refine hX _ _ _ _ _ _ _ ?_
  refine b_ne (show mput σ 0 0 (nI 0) 0 3 = nI h from h3) (b := 0) rfl (by omega) (by omega) (fun e => ?_) (fun e => ⟨Or.inl rfl, q0 e _ MX.th⟩)
  have q1 := q1 (by omega)
  refine hX _ _ _ _ _ _ _ ?_
  have loop : ∀ r k W2, 823 - k = r → k ≤ 823 → (∀ c, c ≠ 1 → c ≠ 0 → W2 c = σ c) → (∀ i, i ≠ 0 → W2 0 i = σ 0 i) → W2 0 0 = nI 0 → (∀ i, i < k → W2 1 i = σ 2 i) → X 16 [some (.ref 0), some (.int (nI k))] [] sh_10 W2 0 0 := by
    intro r
    induction r with
    | zero =>
      intro k W2 hr2 hk u1 u2 u0 u3
      have ek : k = 823 := by omega
      subst ek
      refine hX _ _ _ _ _ _ _ ?_
      refine b_ge rfl (b := 823) rfl (by omega) (by omega) (fun _ => ?_) (fun h => by omega)
      refine hX _ _ _ _ _ _ _ ?_
      exact ⟨Or.inr rfl, q1 _ u3 (u1 2 (by omega) (by omega)) (u1 5 (by omega) (by omega)) u0 (u2 3 (by omega)) rfl (u2 8 (by omega)) (u2 12 (by omega)) (k15.e (u2 15 (by omega)))⟩
    | succ r ih =>
      intro k W2 hr2 hk u1 u2 u0 u3
      have ew : mput W2 1 (nI k).toNatClampNeg (W2 2 (nI k).toNatClampNeg) = mput W2 1 k (σ 2 k) := by
        rw [nI_clamp (by omega), u1 2 (by omega) (by omega)]
      have nxt : ∀ W3, W3 = mput W2 1 k (σ 2 k) → X 16 [some (.ref 0), some (.int (nI k + nI 1))] [] sh_10 W3 0 0 := by
        intro W3 hW3
        rw [nI_add]
        refine ih (k + 1) W3 (by omega) (by omega) (fun c hc h0 => ?_) (fun i hi => ?_) ?_ (fun i hi => ?_)
        · rw [hW3, mput_ne hc]; exact u1 c hc h0
        · rw [hW3, mput_ne (by omega)]; exact u2 i hi
        · rw [hW3, mput_ne (by omega)]; exact u0
        · rw [hW3, mput_eq]
          by_cases e : i = k
          · rw [e, upd_at]
          · rw [upd_off (by omega)]; exact u3 i (by omega)
      refine hX _ _ _ _ _ _ _ ?_
      refine b_ge rfl (b := 823) rfl (by omega) (by omega) (fun h => by omega) (fun _ => ?_)
      refine ⟨vp_in_nI (by omega) (by omega), vp_in_nI (by omega) (by omega), ?_⟩
      exact nxt _ ew
  exact loop _ 0 _ rfl (by omega) (fun c h1 h0 => mput_ne h0) (fun i h0 => by rw [mput_eq, upd_off h0]) rfl (fun i hi => by omega)
end MME
