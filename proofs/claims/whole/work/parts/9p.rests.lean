/-! BOTH SIDES: choices of a carter and a rat -/
def hH (t : Int32) : Nat → Int32
  | 0 => t - nI 3
  | 1 => t
  | 2 => nI 0
  | _ => nI 1
def rR : Nat → Int32
  | 0 => nI 1
  | 1 => nI 0
  | 2 => -(nI 1)
  | _ => nI 2
def xo1 (k : Nat) : Nat := 2 * (k / 2) + (1 - k % 2)
def xo2 (k : Nat) : Nat := 2 * (1 - k / 2) + k % 2
def reB (t : Int32) (k : Nat) : Bool := decide (hH t (xo2 k) ≤ hH t k ∧ rR (xo1 k) ≤ rR k)
def sRe (m : Nat → Int32) (s : Nat) : Int32 := sSet (reB (m (22 + 9 * s) / nI 10)) 4
theorem reB_iff {t : Int32} {k : Nat} : reB t k = true ↔ (hH t (xo2 k) ≤ hH t k ∧ rR (xo1 k) ≤ rR k) := decide_eq_true_iff
theorem re_x2 : ∀ k, k < 4 → nI k ^^^ nI 2 = nI (xo2 k) := by decide +kernel
theorem re_x1 : ∀ k, k < 4 → nI k ^^^ nI 1 = nI (xo1 k) := by decide +kernel
theorem re_lt : ∀ k, k < 4 → xo1 k < 4 ∧ xo2 k < 4 := by decide +kernel
theorem re_d : ∀ k, k < 4 → nI k / nI 2 = nI (k / 2) ∧ nI k - nI k / nI 2 * nI 2 = nI (k % 2) ∧ nI 1 - nI k / nI 2 = nI (1 - k / 2) ∧ nI 1 - (nI k - nI k / nI 2 * nI 2) = nI (1 - k % 2) := by decide +kernel
theorem re_r : ∀ k, k < 4 → mrat k = rR k := by decide +kernel
theorem re_k : ∀ k, k < 4 → 2 * (k / 2) + k % 2 = k := by decide +kernel
theorem re_t : ∀ k, k < 4 → 1 - k / 2 < 2 ∧ k / 2 < 2 ∧ k % 2 < 2 ∧ 1 - k % 2 < 2 := by decide +kernel
section CRE
variable {d : Nat} {σ : mSg} {m : Nat → Int32} {Q : mPst} {n nc ns nd : Nat} {sh : List mSh}
theorem c_carterHas {j : Nat} {t x : Int32} (hx : x = nI j) (hj : j < 4) (hq : Q (.inl (some (.int (hH t j)))) sh σ) : mD (d + 1) 72 [.int t, .int x] sh σ Q := by
  subst hx
  refine ⟨rfl, fun X hX => ?_⟩
  refine hX _ _ _ _ _ _ _ ?_
  rcases (by omega : j = 0 ∨ j = 1 ∨ j = 2 ∨ j = 3) with rfl | rfl | rfl | rfl
  · refine ⟨fun h => absurd h (by decide +kernel), fun _ => ?_, fun h => absurd h (by decide +kernel), fun h => absurd h (by decide +kernel), trivial⟩
    refine hX _ _ _ _ _ _ _ ?_
    exact hq
  · refine ⟨fun h => absurd h (by decide +kernel), fun h => absurd h (by decide +kernel), fun _ => ?_, fun h => absurd h (by decide +kernel), trivial⟩
    refine hX _ _ _ _ _ _ _ ?_
    exact hq
  · refine ⟨fun h => absurd h (by decide +kernel), fun h => absurd h (by decide +kernel), fun h => absurd h (by decide +kernel), fun _ => ?_, trivial⟩
    refine hX _ _ _ _ _ _ _ ?_
    exact hq
  · refine ⟨fun _ => ?_, fun h => absurd h (by decide +kernel), fun h => absurd h (by decide +kernel), fun h => absurd h (by decide +kernel), trivial⟩
    refine hX _ _ _ _ _ _ _ ?_
    exact hq
set_option maxRecDepth 100000 in
theorem c_yrests {p : Int32} (hB : BD m n nc ns nd) (hR : RYs σ m) (q1 : ∀ s, s < n → p = nI s → Q (.inl (some (.int (sRe m s)))) sh_9 σ) (q0 : (¬ ∃ s, s < n ∧ p = nI s) → Q (.inr 2) sh_9 σ) : mD (d + 2) 41 [.ref 0, .int p] sh_9 σ Q := by
  have hn := hB.1.2
  refine ⟨rfl, fun X hX => ?_⟩
  refine hX _ _ _ _ _ _ _ ?_
  refine c_needStreet hB hR (fun s hs e => ?_) q0
  subst e
  have hq := q1 s hs rfl
  unfold sRe at hq
  generalize ht : m (22 + 9 * s) / nI 10 = t at hq
  generalize hP : reB t = P at hq
  have loop : ∀ r k W, 4 - k = r → k ≤ 4 → W = σ → X 22 [none, none, some (.int t), some (.int (sSet P k)), some (.int (nI k)), none, none] [] sh_9 W 1 6 := by
    intro r
    induction r with
    | zero =>
      intro k W hr hk hW
      have ek : k = 4 := by omega
      subst ek
      refine hX _ _ _ _ _ _ _ ?_
      refine b_ge rfl (b := 4) rfl (by omega) (by omega) (fun _ => ?_) (fun h => by omega)
      refine hX _ _ _ _ _ _ _ ?_
      exact qw (Q := Q) hW hq
    | succ r ih =>
      intro k W hr hk hW
      have hk : k < 4 := by omega
      obtain ⟨l1, l2⟩ := re_lt k hk
      have e1 := re_x1 k hk
      have e2 := re_x2 k hk
      have no : ¬ P k = true → X 93 [none, none, some (.int t), some (.int (sSet P k)), some (.int (nI k)), none, none] [] sh_9 W 1 6 := by
        intro h
        refine hX _ _ _ _ _ _ _ ?_
        have h9 := ih (k + 1) W (by omega) (by omega) hW
        rw [sSet, if_neg h, ← nI_1 k] at h9
        exact h9
      have yes : P k = true → X 93 [none, none, some (.int t), some (.int (sSet P k ||| (nI 1 <<< (nI k &&& 31)))), some (.int (nI k)), none, none] [] sh_9 W 1 6 := by
        intro h
        refine hX _ _ _ _ _ _ _ ?_
        have h9 := ih (k + 1) W (by omega) (by omega) hW
        rw [sSet, if_pos h, ← nI_1 k] at h9
        exact h9
      have p74 : ∀ x y, tv x (hH t (xo2 k) ≤ hH t k) → tv y (rR (xo1 k) ≤ rR k) → X 74 [none, none, some (.int t), some (.int (sSet P k)), some (.int (nI k)), some (.int x), none] [.int y] sh_9 W 1 6 := by
        intro x y hx hy
        refine hX _ _ _ _ _ _ _ ?_
        rcases hx with ⟨rfl, hx⟩ | ⟨rfl, hx⟩
        · refine ⟨fun z => absurd z (by decide +kernel), fun _ => ?_⟩
          rcases hy with ⟨rfl, hy⟩ | ⟨rfl, hy⟩
          · refine ⟨fun z => absurd z (by decide +kernel), fun _ => ?_⟩
            exact yes (by rw [← hP, reB_iff]; exact ⟨hx, hy⟩)
          · exact ⟨fun _ => no (by rw [← hP, reB_iff]; exact fun z => hy z.2), fun z => absurd rfl z⟩
        · exact ⟨fun _ => no (by rw [← hP, reB_iff]; exact fun z => hx z.1), fun z => absurd rfl z⟩
      have p50 : ∀ x, tv x (hH t (xo2 k) ≤ hH t k) → X 50 [none, none, some (.int t), some (.int (sSet P k)), some (.int (nI k)), none, none] [.int x] sh_9 W 1 6 := by
        intro x hx
        refine hX _ _ _ _ _ _ _ ?_
        refine ⟨vp_in_nI hk (by omega), ?_⟩
        refine ⟨vin e1 l1 (by omega), ?_⟩
        refine ⟨fun h => ?_, fun h => ?_⟩
        · have h : mrat (nI k).toNatClampNeg < mrat (nI k ^^^ nI 1).toNatClampNeg := h
          rw [nI_clamp (by omega), clN e1 (by omega), re_r k hk, re_r _ l1] at h
          refine hX _ _ _ _ _ _ _ ?_
          exact p74 x (nI 0) hx (Or.inr ⟨rfl, Int32.not_le.mpr h⟩)
        · have h : ¬ mrat (nI k).toNatClampNeg < mrat (nI k ^^^ nI 1).toNatClampNeg := h
          rw [nI_clamp (by omega), clN e1 (by omega), re_r k hk, re_r _ l1] at h
          exact p74 x (nI 1) hx (Or.inl ⟨rfl, Int32.not_lt.mp h⟩)
      refine hX _ _ _ _ _ _ _ ?_
      refine b_ge rfl (b := 4) rfl (by omega) (by omega) (fun h => by omega) (fun _ => ?_)
      refine c_carterHas rfl hk ?_
      refine c_carterHas e2 l2 ?_
      refine ⟨fun h => ?_, fun h => ?_⟩
      · have h : hH t k < hH t (xo2 k) := h
        refine hX _ _ _ _ _ _ _ ?_
        exact p50 (nI 0) (Or.inr ⟨rfl, Int32.not_le.mpr h⟩)
      · have h : ¬ hH t k < hH t (xo2 k) := h
        exact p50 (nI 1) (Or.inl ⟨rfl, Int32.not_lt.mp h⟩)
  refine c_waitsOf (by omega) (qs rfl hR) ?_
  refine ⟨by decide +kernel, ?_⟩
  have h9 := loop _ 0 _ rfl (Nat.zero_le _) (qn (σ := σ) rfl)
  rw [← ht] at h9
  exact h9
end CRE
section MRE2
variable {d : Nat} {σ : mSg} {Q : mPst} {n nc ns nd : Nat} {sh : List mSh}
theorem g_heHas {s a b : Nat} {x y : Int32} (hs : s < 7) (hx : x = nI a) (hy : y = nI b) (ha : a < 2) (hb : b < 2) (hq : Q (.inl (some (.int (hH (σ 1 (22 + 9 * s) / nI 10) (2 * a + b))))) sh_10 σ) : mD (d + 2) 206 [.ref 0, .int (nI s), .int x, .int y] sh_10 σ Q := by
  refine ⟨rfl, fun X hX => ?_⟩
  refine hX _ _ _ _ _ _ _ ?_
  refine b_ne hx (b := 0) rfl (by omega) (by omega) (fun h => ?_) (fun h => ?_)
  · have ea : a = 1 := by omega
    subst ea
    refine hX _ _ _ _ _ _ _ ?_
    refine b_ne hy (b := 0) rfl (by omega) (by omega) (fun h => ?_) (fun h => ?_)
    · have eb : b = 1 := by omega
      subst eb
      refine hX _ _ _ _ _ _ _ ?_
      refine hX _ _ _ _ _ _ _ ?_
      exact hq
    · subst h
      refine hX _ _ _ _ _ _ _ ?_
      exact hq
  · subst h
    refine b_ne hy (b := 0) rfl (by omega) (by omega) (fun h => ?_) (fun h => ?_)
    · have eb : b = 1 := by omega
      subst eb
      refine hX _ _ _ _ _ _ _ ?_
      refine g_of (w := 2) hs (by omega) ?_
      refine ⟨by decide +kernel, ?_⟩
      refine hX _ _ _ _ _ _ _ ?_
      rw [show 22 + 9 * s = 20 + 9 * s + 2 by omega] at hq
      exact hq
    · subst h
      refine g_of (w := 2) hs (by omega) ?_
      refine ⟨by decide +kernel, ?_⟩
      refine hX _ _ _ _ _ _ _ ?_
      rw [show 22 + 9 * s = 20 + 9 * s + 2 by omega] at hq
      exact hq
theorem g_ratHas {a b : Nat} {x y : Int32} (hx : x = nI a) (hy : y = nI b) (ha : a < 2) (hb : b < 2) (hq : Q (.inl (some (.int (rR (2 * a + b))))) sh σ) : mD (d + 1) 207 [.int x, .int y] sh σ Q := by
  refine ⟨rfl, fun X hX => ?_⟩
  refine hX _ _ _ _ _ _ _ ?_
  refine b_ne hx (b := 0) rfl (by omega) (by omega) (fun h => ?_) (fun h => ?_)
  · have ea : a = 1 := by omega
    subst ea
    refine hX _ _ _ _ _ _ _ ?_
    refine b_ne hy (b := 0) rfl (by omega) (by omega) (fun h => ?_) (fun h => ?_)
    · have eb : b = 1 := by omega
      subst eb
      refine hX _ _ _ _ _ _ _ ?_
      refine hX _ _ _ _ _ _ _ ?_
      exact hq
    · subst h
      refine hX _ _ _ _ _ _ _ ?_
      exact hq
  · subst h
    refine b_ne hy (b := 0) rfl (by omega) (by omega) (fun h => ?_) (fun h => ?_)
    · have eb : b = 1 := by omega
      subst eb
      refine hX _ _ _ _ _ _ _ ?_
      refine hX _ _ _ _ _ _ _ ?_
      exact hq
    · subst h
      refine hX _ _ _ _ _ _ _ ?_
      exact hq
theorem g_rests {p : Int32} (hB : BD (σ 1) n nc ns nd) (q1 : ∀ s, s < n → p = nI s → ∀ σ', MX σ (σ 1) (nI 0) σ' → Q (.inl (some (.int (sRe (σ 1) s)))) sh_10 σ') (q0 : (¬ ∃ s, s < n ∧ p = nI s) → ∀ σ', MX σ (σ 1) (nI 1) σ' → Q (.inl (some (.int (nI 0)))) sh_10 σ') : mD (d + 3) 208 [.ref 0, .int p] sh_10 σ Q := by
  have hn := hB.1.2
  refine ⟨rfl, fun X hX => ?_⟩
  refine hX _ _ _ _ _ _ _ ?_
  refine g_isStreet (fun h1 => ?_) (fun h1 => ?_)
  · rw [hB.1.1, sIn_iff (by omega)] at h1
    obtain ⟨s, hs, rfl⟩ := h1
    have hq := q1 s hs rfl _ MX.th
    unfold sRe at hq
    generalize ht : σ 1 (22 + 9 * s) / nI 10 = t at hq
    generalize hP : reB t = P at hq
    have loop : ∀ r k, 4 - k = r → k ≤ 4 → X 30 [some (.ref 0), some (.int (nI s)), some (.int (sSet P k)), some (.int (nI k)), none, none] [] sh_10 (mput σ 0 0 (nI 0)) 0 0 := by
      intro r
      induction r with
      | zero =>
        intro k hr hk
        have ek : k = 4 := by omega
        subst ek
        refine hX _ _ _ _ _ _ _ ?_
        refine b_ge rfl (b := 4) rfl (by omega) (by omega) (fun _ => ?_) (fun h => by omega)
        refine hX _ _ _ _ _ _ _ ?_
        exact hq
      | succ r ih =>
        intro k hr hk
        have hk : k < 4 := by omega
        obtain ⟨l1, l2⟩ := re_lt k hk
        obtain ⟨d1, d2, d3, d4⟩ := re_d k hk
        obtain ⟨t1, t2, t3, t4⟩ := re_t k hk
        have no : ¬ P k = true → X 93 [some (.ref 0), some (.int (nI s)), some (.int (sSet P k)), some (.int (nI k)), none, none] [] sh_10 (mput σ 0 0 (nI 0)) 0 0 := by
          intro h
          refine hX _ _ _ _ _ _ _ ?_
          have h9 := ih (k + 1) (by omega) (by omega)
          rw [sSet, if_neg h, ← nI_1 k] at h9
          exact h9
        have yes : P k = true → X 93 [some (.ref 0), some (.int (nI s)), some (.int (sSet P k ||| (nI 1 <<< (nI k &&& 31)))), some (.int (nI k)), none, none] [] sh_10 (mput σ 0 0 (nI 0)) 0 0 := by
          intro h
          refine hX _ _ _ _ _ _ _ ?_
          have h9 := ih (k + 1) (by omega) (by omega)
          rw [sSet, if_pos h, ← nI_1 k] at h9
          exact h9
        have hk2 := re_k k hk
        refine hX _ _ _ _ _ _ _ ?_
        refine b_ge rfl (b := 4) rfl (by omega) (by omega) (fun h => by omega) (fun _ => ?_)
        refine ⟨by decide +kernel, ?_⟩
        refine ⟨by decide +kernel, ?_⟩
        refine g_heHas (by omega) d3 d2 t1 t3 ?_
        refine g_heHas (by omega) d1 d2 t2 t3 ?_
        refine ⟨fun h => no ?_, fun h => ?_⟩
        · have h : hH (σ 1 (22 + 9 * s) / nI 10) (2 * (k / 2) + k % 2) < hH (σ 1 (22 + 9 * s) / nI 10) (2 * (1 - k / 2) + k % 2) := h
          rw [hk2, ht] at h
          rw [← hP, reB_iff]
          exact fun z => Int32.not_lt.mpr z.1 h
        · have h : ¬ hH (σ 1 (22 + 9 * s) / nI 10) (2 * (k / 2) + k % 2) < hH (σ 1 (22 + 9 * s) / nI 10) (2 * (1 - k / 2) + k % 2) := h
          rw [hk2, ht] at h
          refine g_ratHas d1 d4 t2 t4 ?_
          refine g_ratHas d1 d2 t2 t3 ?_
          refine ⟨fun h3 => no ?_, fun h3 => yes ?_⟩
          · have h3 : rR (2 * (k / 2) + k % 2) < rR (2 * (k / 2) + (1 - k % 2)) := h3
            rw [hk2] at h3
            rw [← hP, reB_iff]
            exact fun z => Int32.not_lt.mpr z.2 h3
          · have h3 : ¬ rR (2 * (k / 2) + k % 2) < rR (2 * (k / 2) + (1 - k % 2)) := h3
            rw [hk2] at h3
            rw [← hP, reB_iff]
            exact ⟨Int32.not_lt.mp h, Int32.not_lt.mp h3⟩
    refine ⟨fun _ => ?_, fun z => absurd z (by decide +kernel)⟩
    refine hX _ _ _ _ _ _ _ ?_
    refine hX _ _ _ _ _ _ _ ?_
    refine ⟨fun _ => ?_, fun z => absurd (show nI 0 ≤ 0 from by decide +kernel) z⟩
    refine hX _ _ _ _ _ _ _ ?_
    exact loop _ 0 rfl (Nat.zero_le _)
  · rw [hB.1.1, sIn_iff (by omega)] at h1
    refine ⟨fun z => absurd rfl z, fun _ => ?_⟩
    refine hX _ _ _ _ _ _ _ ?_
    refine ⟨fun z => absurd (show nI 1 ≤ 0 from z) (by decide +kernel), fun _ => ?_⟩
    exact q0 h1 _ MX.th
end MRE2
