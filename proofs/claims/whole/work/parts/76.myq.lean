/-! THE MODEL: what it is asked -/
/-- behind a call of the model: the row f, what was thrown, all that counts else as ahead -/
def MX (σ : mSg) (f : Nat → Int32) (th : Int32) (σ' : mSg) : Prop := σ' 1 = f ∧ σ' 2 = σ 2 ∧ σ' 4 = σ 4 ∧ σ' 5 = σ 5 ∧ σ' 0 0 = th ∧ σ' 0 3 = σ 0 3 ∧ σ' 0 6 = σ 0 6 ∧ σ' 0 8 = σ 0 8 ∧ σ' 0 12 = σ 0 12 ∧ k15 σ σ'
theorem MX.th {σ : mSg} {x : Int32} : MX σ (σ 1) x (mput σ 0 0 x) := ⟨rfl, rfl, rfl, rfl, rfl, rfl, rfl, rfl, rfl, fun z => z⟩
theorem MX.w {σ σ' : mSg} {f : Nat → Int32} {x : Int32} (h : MW (mput σ 0 0 x) f σ') : MX σ f x σ' := ⟨h.1, h.2.1 2 (by omega) (by omega), h.2.1 4 (by omega) (by omega), h.2.1 5 (by omega) (by omega), h.2.2.1, h.2.2.2.1, h.2.2.2.2.1, h.2.2.2.2.2.1, h.2.2.2.2.2.2.1, fun z => h.2.2.2.2.2.2.2 z⟩
theorem sIn_iff {p : Int32} {n : Nat} (hn : n < 2 ^ 30) : sIn p (nI 0) (nI n - nI 1) ↔ ∃ s, s < n ∧ p = nI s := by
  unfold sIn
  cases n with
  | zero =>
    constructor
    · rintro ⟨h1, h2⟩
      have a1 := Int32.le_iff_toInt_le.mp h1
      have a2 := Int32.le_iff_toInt_le.mp h2
      have e1 : (nI 0).toInt = 0 := by decide +kernel
      have e2 : (nI 0 - nI 1).toInt = -1 := by decide +kernel
      omega
    · rintro ⟨s, hs, -⟩; omega
  | succ n =>
    rw [nI_sub (by omega), Nat.add_sub_cancel]
    constructor
    · rintro ⟨h1, h2⟩
      rcases rng2 (p := p) (a := 0) (b := n) (by omega) (by omega) with h | h | ⟨s, -, h4, e⟩
      · exact absurd h (Int32.not_lt.mpr h1)
      · exact absurd h (Int32.not_lt.mpr h2)
      · exact ⟨s, by omega, e⟩
    · rintro ⟨s, hs, rfl⟩
      exact ⟨nI_le (by omega) (by omega), nI_le (by omega) (by omega)⟩
theorem sIn2_iff {p : Int32} {a b : Nat} (hb : b < 2 ^ 31) (hab : a ≤ b) : sIn p (nI a) (nI b) ↔ ∃ s, a ≤ s ∧ s ≤ b ∧ p = nI s := by
  unfold sIn
  constructor
  · rintro ⟨h1, h2⟩
    rcases rng2 (p := p) (a := a) (b := b) hb hab with h | h | h
    · exact absurd h (Int32.not_lt.mpr h1)
    · exact absurd h (Int32.not_lt.mpr h2)
    · exact h
  · rintro ⟨s, h1, h2, rfl⟩
    exact ⟨nI_le (by omega) (by omega), nI_le (by omega) (by omega)⟩
theorem sIn0_iff {p : Int32} {b : Nat} (hb : b < 2 ^ 30) : sIn p (nI 0) (nI b) ↔ ∃ s, s < b + 1 ∧ p = nI s := by
  rw [sIn2_iff (by omega) (by omega)]
  exact ⟨fun ⟨s, _, h2, e⟩ => ⟨s, by omega, e⟩, fun ⟨s, h1, e⟩ => ⟨s, by omega, by omega, e⟩⟩
section MYQ
variable {d : Nat} {σ : mSg} {Q : mPst} {ls : List lLn} {n nc ns nd : Nat}
theorem g_mix {p g : Int32} (hB : BD (σ 1) n nc ns nd) (q1 : ∀ s k, s < n → p = nI s → 1 ≤ k → k ≤ 6 → g = nI k → ∀ σ', MX σ (σ 1) (nI 0) σ' → Q (.inl (some (.int (σ 1 (22 + 9 * s + k))))) sh_10 σ') (q0 : ¬ ((∃ s, s < n ∧ p = nI s) ∧ ∃ k, 1 ≤ k ∧ k ≤ 6 ∧ g = nI k) → ∀ σ', MX σ (σ 1) (nI 1) σ' → Q (.inl (some (.int (nI 0)))) sh_10 σ') : mD (d + 3) 148 [.ref 0, .int p, .int g] sh_10 σ Q := by
  have hn := hB.1.2
  refine ⟨rfl, fun X hX => ?_⟩
  have bad : ¬ ((∃ s, s < n ∧ p = nI s) ∧ ∃ k, 1 ≤ k ∧ k ≤ 6 ∧ g = nI k) → X 16 [some (.ref 0), some (.int p), some (.int g)] [.ref 0] sh_10 σ 0 0 := by
    intro h
    refine hX _ _ _ _ _ _ _ ?_
    refine hX _ _ _ _ _ _ _ ?_
    refine ⟨fun z => absurd (show nI 1 ≤ 0 from z) (by decide +kernel), fun _ => ?_⟩
    refine hX _ _ _ _ _ _ _ ?_
    exact q0 h _ MX.th
  refine hX _ _ _ _ _ _ _ ?_
  refine g_isStreet (fun h => ?_) (fun h => ?_)
  · rw [hB.1.1, sIn_iff (by omega)] at h
    refine ⟨fun z => absurd z (by decide +kernel), fun _ => ?_⟩
    refine g_isGrain (fun h2 => ?_) (fun h2 => ?_)
    · rw [sIn2_iff (by omega) (by omega)] at h2
      obtain ⟨s, hs, rfl⟩ := h
      obtain ⟨k, k1, k2, rfl⟩ := h2
      refine ⟨fun _ => ?_, fun z => absurd z (by decide +kernel)⟩
      refine hX _ _ _ _ _ _ _ ?_
      refine hX _ _ _ _ _ _ _ ?_
      refine ⟨fun _ => ?_, fun z => absurd (show nI 0 ≤ 0 from by decide +kernel) z⟩
      refine hX _ _ _ _ _ _ _ ?_
      refine g_mixOf (by omega) k1 (by omega) ?_
      refine hX _ _ _ _ _ _ _ ?_
      exact q1 s k hs rfl k1 k2 rfl _ MX.th
    · rw [sIn2_iff (by omega) (by omega)] at h2
      refine ⟨fun z => absurd rfl z, fun _ => ?_⟩
      exact bad (fun z => h2 z.2)
  · rw [hB.1.1, sIn_iff (by omega)] at h
    refine ⟨fun _ => ?_, fun z => absurd rfl z⟩
    exact bad (fun z => h z.1)
theorem g_mesh {p : Int32} (hB : BD (σ 1) n nc ns nd) (q1 : ∀ s, s < ns → p = nI s → ∀ σ', MX σ (σ 1) (nI 0) σ' → Q (.inl (some (.int (σ 1 (89 + s))))) sh_10 σ') (q0 : (¬ ∃ s, s < ns ∧ p = nI s) → ∀ σ', MX σ (σ 1) (nI 1) σ' → Q (.inl (some (.int (nI 0)))) sh_10 σ') : mD (d + 3) 154 [.ref 0, .int p] sh_10 σ Q := by
  have hn := hB.2.2.1.2
  refine ⟨rfl, fun X hX => ?_⟩
  refine hX _ _ _ _ _ _ _ ?_
  refine ⟨vp_in_nI (n := 5) (by omega) (by omega), ?_⟩
  refine g_isIn (fun h => ?_) (fun h => ?_)
  · have h : sIn p (nI 0) (σ 1 5 - nI 1) := h
    rw [hB.2.2.1.1, sIn_iff (by omega)] at h
    obtain ⟨s, hs, rfl⟩ := h
    refine ⟨fun _ => ?_, fun z => absurd z (by decide +kernel)⟩
    refine hX _ _ _ _ _ _ _ ?_
    refine hX _ _ _ _ _ _ _ ?_
    refine ⟨fun _ => ?_, fun z => absurd (show nI 0 ≤ 0 from by decide +kernel) z⟩
    refine hX _ _ _ _ _ _ _ ?_
    refine ⟨vin (nI_add _ _) (by omega) (by omega), ?_⟩
    refine hX _ _ _ _ _ _ _ ?_
    refine qi ?_ (q1 s hs rfl _ MX.th)
    show _ = σ 1 (nI 89 + nI s).toNatClampNeg
    rw [clN (nI_add _ _) (by omega)]
  · have h : ¬ sIn p (nI 0) (σ 1 5 - nI 1) := h
    rw [hB.2.2.1.1, sIn_iff (by omega)] at h
    refine ⟨fun z => absurd rfl z, fun _ => ?_⟩
    refine hX _ _ _ _ _ _ _ ?_
    refine ⟨fun z => absurd (show nI 1 ≤ 0 from z) (by decide +kernel), fun _ => ?_⟩
    refine hX _ _ _ _ _ _ _ ?_
    exact q0 h _ MX.th
theorem g_contract {p w : Int32} (hB : BD (σ 1) n nc ns nd) (q1 : ∀ s k, s < nd → p = nI s → k < 5 → w = nI k → ∀ σ', MX σ (σ 1) (nI 0) σ' → Q (.inl (some (.int (σ 1 (93 + 5 * s + k))))) sh_10 σ') (q0 : (¬ ∃ s, s < nd ∧ p = nI s) → ∀ σ', MX σ (σ 1) (nI 1) σ' → Q (.inl (some (.int (nI 0)))) sh_10 σ') (q2 : (∃ s, s < nd ∧ p = nI s) → (¬ ∃ k, k < 5 ∧ w = nI k) → ∀ σ', MX σ (σ 1) (nI 2) σ' → Q (.inl (some (.int (nI 0)))) sh_10 σ') : mD (d + 3) 155 [.ref 0, .int p, .int w] sh_10 σ Q := by
  have hn := hB.2.2.2.1.2
  refine ⟨rfl, fun X hX => ?_⟩
  refine hX _ _ _ _ _ _ _ ?_
  refine g_isDeal (fun h => ?_) (fun h => ?_)
  · rw [hB.2.2.2.1.1, sIn_iff (by omega)] at h
    refine ⟨fun _ => ?_, fun z => absurd z (by decide +kernel)⟩
    refine hX _ _ _ _ _ _ _ ?_
    refine g_isIn (fun h2 => ?_) (fun h2 => ?_)
    · have h2 : sIn w (nI 0) (nI 4) := h2
      rw [sIn0_iff (by omega)] at h2
      obtain ⟨s, hs, rfl⟩ := h
      obtain ⟨k, hk, rfl⟩ := h2
      refine ⟨fun _ => ?_, fun z => absurd z (by decide +kernel)⟩
      refine hX _ _ _ _ _ _ _ ?_
      refine hX _ _ _ _ _ _ _ ?_
      refine ⟨fun _ => ?_, fun z => absurd (show nI 0 ≤ 0 from by decide +kernel) z⟩
      refine hX _ _ _ _ _ _ _ ?_
      refine g_ofDeal (by omega) hk ?_
      refine hX _ _ _ _ _ _ _ ?_
      exact q1 s k hs rfl hk rfl _ MX.th
    · have h2 : ¬ sIn w (nI 0) (nI 4) := h2
      rw [sIn0_iff (by omega)] at h2
      refine ⟨fun z => absurd rfl z, fun _ => ?_⟩
      refine hX _ _ _ _ _ _ _ ?_
      refine ⟨fun z => absurd (show nI 2 ≤ 0 from z) (by decide +kernel), fun _ => ?_⟩
      refine hX _ _ _ _ _ _ _ ?_
      exact q2 h h2 _ MX.th
  · rw [hB.2.2.2.1.1, sIn_iff (by omega)] at h
    refine ⟨fun z => absurd rfl z, fun _ => ?_⟩
    refine hX _ _ _ _ _ _ _ ?_
    refine ⟨fun z => absurd (show nI 1 ≤ 0 from z) (by decide +kernel), fun _ => ?_⟩
    refine hX _ _ _ _ _ _ _ ?_
    exact q0 h _ MX.th
theorem g_heap {g : Int32} (q1 : ∀ k, 1 ≤ k → k ≤ 6 → g = nI k → ∀ σ', MX σ (σ 1) (nI 0) σ' → Q (.inl (some (.int (σ 1 (13 + k))))) sh_10 σ') (q0 : (¬ ∃ k, 1 ≤ k ∧ k ≤ 6 ∧ g = nI k) → ∀ σ', MX σ (σ 1) (nI 1) σ' → Q (.inl (some (.int (nI 0)))) sh_10 σ') : mD (d + 3) 156 [.ref 0, .int g] sh_10 σ Q := by
  refine ⟨rfl, fun X hX => ?_⟩
  refine hX _ _ _ _ _ _ _ ?_
  refine g_isGrain (fun h2 => ?_) (fun h2 => ?_)
  · rw [sIn2_iff (by omega) (by omega)] at h2
    obtain ⟨k, k1, k2, rfl⟩ := h2
    refine ⟨fun _ => ?_, fun z => absurd z (by decide +kernel)⟩
    refine hX _ _ _ _ _ _ _ ?_
    refine hX _ _ _ _ _ _ _ ?_
    refine ⟨fun _ => ?_, fun z => absurd (show nI 0 ≤ 0 from by decide +kernel) z⟩
    refine hX _ _ _ _ _ _ _ ?_
    refine g_heaped k1 (by omega) ?_
    refine hX _ _ _ _ _ _ _ ?_
    exact q1 k k1 k2 rfl _ MX.th
  · rw [sIn2_iff (by omega) (by omega)] at h2
    refine ⟨fun z => absurd rfl z, fun _ => ?_⟩
    refine hX _ _ _ _ _ _ _ ?_
    refine ⟨fun z => absurd (show nI 1 ≤ 0 from z) (by decide +kernel), fun _ => ?_⟩
    refine hX _ _ _ _ _ _ _ ?_
    exact q0 h2 _ MX.th
theorem g_way {p w : Int32} (hB : BD (σ 1) n nc ns nd) (q1 : ∀ s o : Option Nat, (∀ k, s = some k → k < n) → (∀ k, o = some k → k < n) → p = oN s → w = oN o → ∀ σ', MX σ (σ 1) (nI 0) σ' → Q (.inl (some (.int (sWay (σ 1) s o)))) sh_10 σ') (q0 : ¬ (sOk n p ∧ sOk n w) → ∀ σ', MX σ (σ 1) (nI 1) σ' → Q (.inl (some (.int (nI 0)))) sh_10 σ') : mD (d + 3) 157 [.ref 0, .int p, .int w] sh_10 σ Q := by
  have hn := hB.1.2
  refine ⟨rfl, fun X hX => ?_⟩
  have bad : ¬ (sOk n p ∧ sOk n w) → X 27 [some (.ref 0), some (.int p), some (.int w)] [.ref 0] sh_10 σ 0 0 := by
    intro h
    refine hX _ _ _ _ _ _ _ ?_
    refine hX _ _ _ _ _ _ _ ?_
    refine ⟨fun z => absurd (show nI 1 ≤ 0 from z) (by decide +kernel), fun _ => ?_⟩
    refine hX _ _ _ _ _ _ _ ?_
    exact q0 h _ MX.th
  have good : ∀ s o : Option Nat, (∀ k, s = some k → k < n) → (∀ k, o = some k → k < n) → p = oN s → w = oN o → X 31 [some (.ref 0), some (.int p), some (.int w)] [.ref 0] sh_10 σ 0 0 := by
    intro s o h1 h2 e1 e2
    have hq := q1 s o h1 h2 e1 e2 _ MX.th
    subst e1; subst e2
    refine hX _ _ _ _ _ _ _ ?_
    refine hX _ _ _ _ _ _ _ ?_
    refine ⟨fun _ => ?_, fun z => absurd (show nI 0 ≤ 0 from by decide +kernel) z⟩
    refine hX _ _ _ _ _ _ _ ?_
    refine g_wayOf (fun k h => by have := h1 k h; omega) (fun k h => by have := h2 k h; omega) ?_
    refine hX _ _ _ _ _ _ _ ?_
    exact hq
  have mid : ∀ s : Option Nat, (∀ k, s = some k → k < n) → p = oN s → X 14 [some (.ref 0), some (.int p), some (.int w)] [.ref 0] sh_10 σ 0 0 := by
    intro s h1 e1
    refine hX _ _ _ _ _ _ _ ?_
    refine ⟨fun h => ?_, fun h => ?_⟩
    · exact good s none h1 (fun k h => by cases h) e1 h
    · refine g_isStreet (fun h2 => ?_) (fun h2 => ?_)
      · rw [hB.1.1, sIn_iff (by omega)] at h2
        obtain ⟨o, ho, e⟩ := h2
        refine ⟨fun _ => ?_, fun z => absurd z (by decide +kernel)⟩
        exact good s (some o) h1 (fun k h => by cases h; exact ho) e1 e
      · rw [hB.1.1, sIn_iff (by omega)] at h2
        refine ⟨fun z => absurd rfl z, fun _ => ?_⟩
        exact bad (fun y => y.2.elim h h2)
  refine hX _ _ _ _ _ _ _ ?_
  refine ⟨fun h => ?_, fun h => ?_⟩
  · exact mid none (fun k h => by cases h) h
  · refine g_isStreet (fun h2 => ?_) (fun h2 => ?_)
    · rw [hB.1.1, sIn_iff (by omega)] at h2
      obtain ⟨o, ho, e⟩ := h2
      refine ⟨fun z => absurd z (by decide +kernel), fun _ => ?_⟩
      exact mid (some o) (fun k h => by cases h; exact ho) e
    · rw [hB.1.1, sIn_iff (by omega)] at h2
      refine ⟨fun _ => ?_, fun z => absurd rfl z⟩
      exact bad (fun y => y.1.elim h h2)
theorem g_waitsOfAll (hB : BD (σ 1) n nc ns nd) (hq : Q (.inl (some (.int (sWA (σ 1) n)))) sh_10 σ) : mD (d + 2) 145 [.ref 0] sh_10 σ Q := by
  have hn := hB.1.2
  refine ⟨rfl, fun X hX => ?_⟩
  have loop : ∀ j k, n - k = j → k ≤ n → X 4 [some (.ref 0), some (.int (sWA (σ 1) k)), some (.int (nI k))] [] sh_10 σ 0 0 := by
    intro j
    induction j with
    | zero =>
      intro k hj hk
      have ek : k = n := by omega
      subst ek
      refine hX _ _ _ _ _ _ _ ?_
      refine ⟨vp_in_nI (n := 3) (by omega) (by omega), ?_⟩
      refine b_ge rfl hB.1.1 (by omega) (by omega) (fun _ => ?_) (fun h => by omega)
      refine hX _ _ _ _ _ _ _ ?_
      exact hq
    | succ j ih =>
      intro k hj hk
      refine hX _ _ _ _ _ _ _ ?_
      refine ⟨vp_in_nI (n := 3) (by omega) (by omega), ?_⟩
      refine b_ge rfl hB.1.1 (by omega) (by omega) (fun h => by omega) (fun _ => ?_)
      refine g_of (w := 2) (by omega) (by omega) ?_
      have h9 := ih (k + 1) (by omega) (by omega)
      rw [sWA, ← nI_1 k, show 22 + 9 * k = 20 + 9 * k + 2 by omega] at h9
      exact h9
  refine hX _ _ _ _ _ _ _ ?_
  exact loop _ 0 rfl (Nat.zero_le _)
theorem g_street {p w : Int32} (hB : BD (σ 1) n nc ns nd) (hL : LTx (σ 1) ls) (q1 : ∀ s k, s < n → p = nI s → k < 8 → w = nI k → ∀ σ', MX σ (σ 1) (nI 0) σ' → Q (.inl (some (.int (sStr ls (σ 1) n s k)))) sh_10 σ') (q0 : (¬ ∃ s, s < n ∧ p = nI s) → ∀ σ', MX σ (σ 1) (nI 1) σ' → Q (.inl (some (.int (nI 0)))) sh_10 σ') (q2 : (∃ s, s < n ∧ p = nI s) → (¬ ∃ k, k < 8 ∧ w = nI k) → ∀ σ', MX σ (σ 1) (nI 2) σ' → Q (.inl (some (.int (nI 0)))) sh_10 σ') : mD (d + 33) 147 [.ref 0, .int p, .int w] sh_10 σ Q := by
  have hn := hB.1.2
  refine ⟨rfl, fun X hX => ?_⟩
  refine hX _ _ _ _ _ _ _ ?_
  refine g_isStreet (fun h => ?_) (fun h => ?_)
  · rw [hB.1.1, sIn_iff (by omega)] at h
    refine ⟨fun _ => ?_, fun z => absurd z (by decide +kernel)⟩
    refine hX _ _ _ _ _ _ _ ?_
    refine g_isIn (fun h2 => ?_) (fun h2 => ?_)
    · have h2 : sIn w (nI 0) (nI 7) := h2
      rw [sIn0_iff (by omega)] at h2
      obtain ⟨s, hs, rfl⟩ := h
      obtain ⟨k, hk, rfl⟩ := h2
      have hq := q1 s k hs rfl hk rfl
      refine ⟨fun _ => ?_, fun z => absurd z (by decide +kernel)⟩
      refine hX _ _ _ _ _ _ _ ?_
      refine hX _ _ _ _ _ _ _ ?_
      refine ⟨fun _ => ?_, fun z => absurd (show nI 0 ≤ 0 from by decide +kernel) z⟩
      have hBt : BD (mput σ 0 0 (nI 0) 1) n nc ns nd := hB
      refine hX _ _ _ _ _ _ _ ?_
      refine b_ge rfl (b := 3) rfl (by omega) (by omega) (fun g3 => ?_) (fun g3 => ?_)
      · refine hX _ _ _ _ _ _ _ ?_
        refine b_ne rfl (b := 3) rfl (by omega) (by omega) (fun g4 => ?_) (fun g4 => ?_)
        · refine hX _ _ _ _ _ _ _ ?_
          refine b_ne rfl (b := 4) rfl (by omega) (by omega) (fun g5 => ?_) (fun g5 => ?_)
          · refine hX _ _ _ _ _ _ _ ?_
            refine b_ne rfl (b := 5) rfl (by omega) (by omega) (fun g6 => ?_) (fun g6 => ?_)
            · refine hX _ _ _ _ _ _ _ ?_
              refine b_ne rfl (b := 6) rfl (by omega) (by omega) (fun g7 => ?_) (fun g7 => ?_)
              · have ek : k = 7 := by omega
                subst ek
                have hq : ∀ σ', MX σ (σ 1) (nI 0) σ' → Q (.inl (some (.int (if sWA (σ 1) n = nI 0 then nI 0 else σ 1 (22 + 9 * s) * nI 100 / sWA (σ 1) n)))) sh_10 σ' := hq
                refine hX _ _ _ _ _ _ _ ?_
                refine g_waitsOfAll hBt ?_
                refine ⟨fun hz => ?_, fun hz => ?_⟩
                · have hz : ¬ sWA (σ 1) n = nI 0 := hz
                  rw [if_neg hz] at hq
                  refine hX _ _ _ _ _ _ _ ?_
                  refine g_of (w := 2) (by omega) (by omega) ?_
                  refine g_waitsOfAll hBt ?_
                  refine ⟨hz, ?_⟩
                  refine hX _ _ _ _ _ _ _ ?_
                  have hq := hq _ MX.th
                  rw [Int32.mul_comm, show 22 + 9 * s = 20 + 9 * s + 2 by omega] at hq
                  exact hq
                · have hz : sWA (σ 1) n = nI 0 := hz
                  rw [if_pos hz] at hq
                  refine hX _ _ _ _ _ _ _ ?_
                  exact hq _ MX.th
              · subst g7
                refine g_wayOf (s := none) (o := some s) (fun q h => by cases h) (fun q h => by cases h; omega) ?_
                have hq : ∀ σ', MX σ (σ 1) (nI 0) σ' → Q (.inl (some (.int (sWay (σ 1) (some s) none)))) sh_10 σ' := hq
                rw [sWay_comm] at hq
                exact hq _ MX.th
            · subst g6
              refine g_tollOf (σ0 := mput σ 0 0 (nI 0)) (f := σ 1) rfl (by omega) (MW.refl (mput σ 0 0 (nI 0))) hL ?_
              intro σ3 h3
              exact hq _ (MX.w h3)
          · subst g5
            refine g_fillsOf (σ0 := mput σ 0 0 (nI 0)) (f := σ 1) rfl (by omega) (MW.refl (mput σ 0 0 (nI 0))) hL ?_
            intro σ3 h3
            exact hq _ (MX.w h3)
        · subst g4
          refine g_loadOf (by omega) ?_
          exact hq _ MX.th
      · refine g_of (by omega) (show k < 9 by omega) ?_
        have hk3 : k = 0 ∨ k = 1 ∨ k = 2 := by omega
        rcases hk3 with rfl | rfl | rfl
        · exact hq _ MX.th
        · have hq : ∀ σ', MX σ (σ 1) (nI 0) σ' → Q (.inl (some (.int (σ 1 (21 + 9 * s))))) sh_10 σ' := hq
          rw [show 21 + 9 * s = 20 + 9 * s + 1 by omega] at hq
          exact hq _ MX.th
        · have hq : ∀ σ', MX σ (σ 1) (nI 0) σ' → Q (.inl (some (.int (σ 1 (22 + 9 * s))))) sh_10 σ' := hq
          rw [show 22 + 9 * s = 20 + 9 * s + 2 by omega] at hq
          exact hq _ MX.th
    · have h2 : ¬ sIn w (nI 0) (nI 7) := h2
      rw [sIn0_iff (by omega)] at h2
      refine ⟨fun z => absurd rfl z, fun _ => ?_⟩
      refine hX _ _ _ _ _ _ _ ?_
      refine ⟨fun z => absurd (show nI 2 ≤ 0 from z) (by decide +kernel), fun _ => ?_⟩
      exact q2 h h2 _ MX.th
  · rw [hB.1.1, sIn_iff (by omega)] at h
    refine ⟨fun z => absurd rfl z, fun _ => ?_⟩
    refine hX _ _ _ _ _ _ _ ?_
    refine ⟨fun z => absurd (show nI 1 ≤ 0 from z) (by decide +kernel), fun _ => ?_⟩
    exact q0 h _ MX.th
end MYQ
