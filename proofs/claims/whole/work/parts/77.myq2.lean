/-! THE MODEL: the most, open ones, twins, the log -/
theorem b_m1' : ∀ i, i < 32 → bt (-(nI 1)) i = true := by decide +kernel
/-- one goes out of a set -/
theorem set_clr {P : Nat → Bool} {n j : Nat} (hn : n ≤ 32) (hj : j < 32) : sSet P n &&& (sBit (nI j) ^^^ -(nI 1)) = sSet (fun k => P k && decide (k ≠ j)) n := by
  refine b_ext (fun i hi => ?_)
  rw [b_and, b_xor, bt_set hi n hn, bt_set hi n hn, bt_bit hj hi, b_m1' i hi]
  by_cases e : i = j
  · rw [show decide (i = j) = true from decide_eq_true e, show decide (i ≠ j) = false from decide_eq_false (fun z => z e)]
    simp
  · rw [show decide (i = j) = false from decide_eq_false e, show decide (i ≠ j) = true from decide_eq_true e]
    simp
theorem set_or0 {P : Nat → Bool} {k : Nat} (h : ¬ P k = true) : sSet P (k + 1) = sSet P k ||| nI 0 := by
  rw [sSet, if_neg h]
  refine b_ext (fun i hi => ?_)
  rw [b_or, show nI 0 = 0 from rfl, b_0, Bool.or_false]
theorem set_congr {P P' : Nat → Bool} : ∀ n, (∀ k, k < n → P k = P' k) → sSet P n = sSet P' n
  | 0, _ => rfl
  | k + 1, h => by
    unfold sSet
    rw [set_congr k (fun q hq => h q (by omega)), h k (by omega)]
section MY2
variable {d : Nat} {σ : mSg} {Q : mPst} {ls : List lLn} {n nc ns nd : Nat}
theorem g_valueOf0 {k : Nat} (hk : k < 7) (hq : Q (.inl (some (.int (σ 1 (22 + 9 * k))))) sh_10 σ) : mD (d + 3) 210 [.ref 0, .int (nI 0), .int (nI k)] sh_10 σ Q := by
  refine ⟨rfl, fun X hX => ?_⟩
  refine hX _ _ _ _ _ _ _ ?_
  refine ⟨fun h => absurd rfl h, fun _ => ?_⟩
  refine g_of (w := 2) hk (by omega) ?_
  refine hX _ _ _ _ _ _ _ ?_
  rw [show 22 + 9 * k = 20 + 9 * k + 2 by omega] at hq
  exact hq
theorem g_valueOf1 {k : Nat} (hk : k < 7) (hq : Q (.inl (some (.int (sWay (σ 1) (some k) none)))) sh_10 σ) : mD (d + 3) 210 [.ref 0, .int (nI 1), .int (nI k)] sh_10 σ Q := by
  refine ⟨rfl, fun X hX => ?_⟩
  refine hX _ _ _ _ _ _ _ ?_
  refine ⟨fun _ => ?_, fun h => absurd h (by decide +kernel)⟩
  refine hX _ _ _ _ _ _ _ ?_
  refine ⟨fun h => absurd rfl h, fun _ => ?_⟩
  refine g_wayOf (s := none) (o := some k) (fun q h => by cases h) (fun q h => by cases h; exact hk) ?_
  refine hX _ _ _ _ _ _ _ ?_
  rw [sWay_comm] at hq
  exact hq
theorem g_valueOf2 {k : Nat} (hk : k < 6) (hq : Q (.inl (some (.int (σ 1 (93 + 5 * k + 2) * σ 1 (93 + 5 * k + 3))))) sh_10 σ) : mD (d + 3) 210 [.ref 0, .int (nI 2), .int (nI k)] sh_10 σ Q := by
  refine ⟨rfl, fun X hX => ?_⟩
  refine hX _ _ _ _ _ _ _ ?_
  refine ⟨fun _ => ?_, fun h => absurd h (by decide +kernel)⟩
  refine hX _ _ _ _ _ _ _ ?_
  refine ⟨fun _ => ?_, fun h => absurd h (by decide +kernel)⟩
  refine hX _ _ _ _ _ _ _ ?_
  refine g_paysOf hk ?_
  refine hX _ _ _ _ _ _ _ ?_
  exact hq
/-- what is asked for, by what -/
def sVa (m : Nat → Int32) : Nat → Nat → Int32
  | 0, k => m (22 + 9 * k)
  | 1, k => sWay m (some k) none
  | _, k => m (93 + 5 * k + 2) * m (93 + 5 * k + 3)
theorem sMst_eq {m : Nat → Int32} {w : Nat} (hw : w < 3) : sMst m n nd w = sMo (sVa m w) (if w < 2 then n else nd) := by
  have h3 : w = 0 ∨ w = 1 ∨ w = 2 := by omega
  rcases h3 with rfl | rfl | rfl
  · rw [if_pos (by omega)]; rfl
  · rw [if_pos (by omega)]; rfl
  · rw [if_neg (by omega)]; rfl
theorem g_valueOf {w k : Nat} (hw : w < 3) (hk : k < (if w < 2 then 7 else 6)) (hq : Q (.inl (some (.int (sVa (σ 1) w k)))) sh_10 σ) : mD (d + 3) 210 [.ref 0, .int (nI w), .int (nI k)] sh_10 σ Q := by
  have h3 : w = 0 ∨ w = 1 ∨ w = 2 := by omega
  rcases h3 with rfl | rfl | rfl
  · exact g_valueOf0 hk hq
  · exact g_valueOf1 hk hq
  · exact g_valueOf2 hk hq
theorem g_most {p : Int32} (hB : BD (σ 1) n nc ns nd) (q1 : ∀ w, w < 3 → p = nI w → ∀ σ', MX σ (σ 1) (nI 0) σ' → Q (.inl (some (.int (oN (sMst (σ 1) n nd w))))) sh_10 σ') (q0 : (¬ ∃ k, k < 3 ∧ p = nI k) → ∀ σ', MX σ (σ 1) (nI 1) σ' → Q (.inl (some (.int (nI 0)))) sh_10 σ') : mD (d + 4) 211 [.ref 0, .int p] sh_10 σ Q := by
  have hn := hB.1.2
  have hnd := hB.2.2.2.1.2
  refine ⟨rfl, fun X hX => ?_⟩
  refine hX _ _ _ _ _ _ _ ?_
  refine g_isIn (fun h2 => ?_) (fun h2 => ?_)
  · have h2 : sIn p (nI 0) (nI 2) := h2
    rw [sIn0_iff (by omega)] at h2
    obtain ⟨w, hw, rfl⟩ := h2
    have hq := q1 w hw rfl
    rw [sMst_eq hw] at hq
    generalize hN : (if w < 2 then n else nd) = N at hq
    have hN2 : N ≤ (if w < 2 then 7 else 6) := by
      rw [← hN]
      split <;> omega
    have hN3 : N ≤ 7 := by
      by_cases z : w < 2
      · rw [if_pos z] at hN2; exact hN2
      · rw [if_neg z] at hN2; omega
    have loop : ∀ j k, N - k = j → k ≤ N → X 54 [some (.ref 0), some (.int (nI w)), some (.int (nI N)), some (.int (oN (sMo (sVa (σ 1) w) k))), some (.int (nI k))] [] sh_10 (mput σ 0 0 (nI 0)) 0 0 := by
      intro j
      induction j with
      | zero =>
        intro k hj hk
        have ek : k = N := by omega
        subst ek
        refine hX _ _ _ _ _ _ _ ?_
        refine b_ge rfl rfl (by omega) (by omega) (fun _ => ?_) (fun h => by omega)
        refine hX _ _ _ _ _ _ _ ?_
        exact hq _ MX.th
      | succ j ih =>
        intro k hj hk
        have go : ∀ o, sMo (sVa (σ 1) w) (k + 1) = o → X 84 [some (.ref 0), some (.int (nI w)), some (.int (nI N)), some (.int (oN o)), some (.int (nI k))] [] sh_10 (mput σ 0 0 (nI 0)) 0 0 := by
          intro o eo
          refine hX _ _ _ _ _ _ _ ?_
          have h9 := ih (k + 1) (by omega) (by omega)
          rw [eo, ← nI_1 k] at h9
          exact h9
        refine hX _ _ _ _ _ _ _ ?_
        refine b_ge rfl rfl (by omega) (by omega) (fun h => by omega) (fun _ => ?_)
        cases hs : sMo (sVa (σ 1) w) k with
        | none =>
          refine ⟨fun _ => ?_, fun h => absurd rfl h⟩
          refine hX _ _ _ _ _ _ _ ?_
          exact go (some k) (by unfold sMo; rw [hs])
        | some b =>
          have hb := sMo_lt k b hs
          refine ⟨fun h => absurd h (oN_ne (by omega)), fun _ => ?_⟩
          refine g_valueOf hw (by omega) ?_
          refine g_valueOf hw (show b < _ by omega) ?_
          refine ⟨fun h => ?_, fun h => ?_⟩
          · exact go (some b) (by unfold sMo; rw [hs]; exact if_neg (Int32.not_lt.mpr h))
          · refine hX _ _ _ _ _ _ _ ?_
            exact go (some k) (by unfold sMo; rw [hs]; exact if_pos (Int32.not_le.mp h))
    refine ⟨fun _ => ?_, fun z => absurd z (by decide +kernel)⟩
    refine hX _ _ _ _ _ _ _ ?_
    refine hX _ _ _ _ _ _ _ ?_
    refine ⟨fun _ => ?_, fun z => absurd (show nI 0 ≤ 0 from by decide +kernel) z⟩
    refine hX _ _ _ _ _ _ _ ?_
    have st : ∀ x, x = nI N → X 48 [some (.ref 0), some (.int (nI w)), none, none, none] [.int x] sh_10 (mput σ 0 0 (nI 0)) 0 0 := by
      rintro x rfl
      refine hX _ _ _ _ _ _ _ ?_
      exact loop _ 0 rfl (Nat.zero_le _)
    refine b_ge rfl (b := 2) rfl (by omega) (by omega) (fun z => ?_) (fun z => ?_)
    · refine hX _ _ _ _ _ _ _ ?_
      refine ⟨vp_in_nI (n := 6) (by omega) (by omega), ?_⟩
      exact st _ (by rw [← hN, if_neg (by omega)]; exact hB.2.2.2.1.1)
    · refine ⟨vp_in_nI (n := 3) (by omega) (by omega), ?_⟩
      exact st _ (by rw [← hN, if_pos z]; exact hB.1.1)
  · have h2 : ¬ sIn p (nI 0) (nI 2) := h2
    rw [sIn0_iff (by omega)] at h2
    refine ⟨fun z => absurd rfl z, fun _ => ?_⟩
    refine hX _ _ _ _ _ _ _ ?_
    refine ⟨fun z => absurd (show nI 1 ≤ 0 from z) (by decide +kernel), fun _ => ?_⟩
    exact q0 h2 _ MX.th
theorem g_openOnes (hB : BD (σ 1) n nc ns nd) (hq : Q (.inl (some (.int (sSet (opB (σ 1)) nd)))) sh_10 σ) : mD (d + 3) 146 [.ref 0] sh_10 σ Q := by
  have hn := hB.2.2.2.1.2
  refine ⟨rfl, fun X hX => ?_⟩
  have loop : ∀ j k, nd - k = j → k ≤ nd → X 4 [some (.ref 0), some (.int (sSet (opB (σ 1)) k)), some (.int (nI k))] [] sh_10 σ 0 0 := by
    intro j
    induction j with
    | zero =>
      intro k hj hk
      have ek : k = nd := by omega
      subst ek
      refine hX _ _ _ _ _ _ _ ?_
      refine ⟨vp_in_nI (n := 6) (by omega) (by omega), ?_⟩
      refine b_ge rfl hB.2.2.2.1.1 (by omega) (by omega) (fun _ => ?_) (fun h => by omega)
      refine hX _ _ _ _ _ _ _ ?_
      exact hq
    | succ j ih =>
      intro k hj hk
      refine hX _ _ _ _ _ _ _ ?_
      refine ⟨vp_in_nI (n := 6) (by omega) (by omega), ?_⟩
      refine b_ge rfl hB.2.2.2.1.1 (by omega) (by omega) (fun h => by omega) (fun _ => ?_)
      have h9 := ih (k + 1) (by omega) (by omega)
      refine g_isOpen (by omega) (fun ho => ?_) (fun ho => ?_)
      · refine ⟨fun h => absurd h (by decide +kernel), fun _ => ?_⟩
        refine hX _ _ _ _ _ _ _ ?_
        have ho : σ 1 (93 + 5 * k + 4) = nI 1 := ho
        rw [sSet, if_pos (show opB (σ 1) k = true from decide_eq_true ho), ← nI_1 k] at h9
        exact h9
      · refine ⟨fun _ => ?_, fun h => absurd rfl h⟩
        refine hX _ _ _ _ _ _ _ ?_
        refine hX _ _ _ _ _ _ _ ?_
        have ho : ¬ σ 1 (93 + 5 * k + 4) = nI 1 := ho
        rw [set_or0 (show ¬ opB (σ 1) k = true from fun z => ho (of_decide_eq_true z)), ← nI_1 k] at h9
        exact h9
  refine hX _ _ _ _ _ _ _ ?_
  exact loop _ 0 rfl (Nat.zero_le _)
theorem g_open {u : Int32} {can : Bool} (hu : u = (if can = true then nI 1 else nI 0)) (hB : BD (σ 1) n nc ns nd) (hq : ∀ σ', MX σ (σ 1) (nI 0) σ' → Q (.inl (some (.int (sOpn (σ 1) nd can)))) sh_10 σ') : mD (d + 4) 212 [.ref 0, .int u] sh_10 σ Q := by
  have hn := hB.2.2.2.1.2
  have hBt : BD (mput σ 0 0 (nI 0) 1) n nc ns nd := hB
  refine ⟨rfl, fun X hX => ?_⟩
  cases can with
  | false =>
    subst hu
    refine hX _ _ _ _ _ _ _ ?_
    refine g_openOnes hBt ?_
    refine hX _ _ _ _ _ _ _ ?_
    refine ⟨vp_in_nI (n := 6) (by omega) (by omega), ?_⟩
    refine ⟨fun _ => ?_, fun _ => ⟨fun _ => ?_, fun h => absurd rfl h⟩⟩
    · refine hX _ _ _ _ _ _ _ ?_
      exact hq _ MX.th
    · refine hX _ _ _ _ _ _ _ ?_
      exact hq _ MX.th
  | true =>
    subst hu
    have loop : ∀ j k, nd - k = j → k ≤ nd → X 12 [some (.ref 0), some (.int (nI 1)), some (.int (sSet (fun q => opB (σ 1) q && (decide (k ≤ q) || hsB (σ 1) q)) nd)), some (.int (nI k))] [] sh_10 (mput σ 0 0 (nI 0)) 0 0 := by
      intro j
      induction j with
      | zero =>
        intro k hj hk
        have ek : k = nd := by omega
        subst ek
        refine hX _ _ _ _ _ _ _ ?_
        refine ⟨vp_in_nI (n := 6) (by omega) (by omega), ?_⟩
        refine b_ge rfl hB.2.2.2.1.1 (by omega) (by omega) (fun _ => ?_) (fun h => by omega)
        refine hX _ _ _ _ _ _ _ ?_
        refine qi ?_ (hq _ MX.th)
        refine set_congr k (fun q hq => ?_)
        rw [show decide (k ≤ q) = false from decide_eq_false (by omega), Bool.false_or]
      | succ j ih =>
        intro k hj hk
        obtain ⟨lo, hi, q, p, c1, c2, c3, c4, c5, c6, c7, c8, c9, c10, c11⟩ := hB.2.2.2.2.2.2.2.1 k (by omega)
        have el : dLo (σ 1) k = lo := by unfold dLo; rw [c7, nI_clamp (by omega)]
        have eh : dHi (σ 1) k = hi := by unfold dHi; rw [c8, nI_clamp (by omega)]
        have nxt : ∀ x, x = sSet (fun q => opB (σ 1) q && (decide (k + 1 ≤ q) || hsB (σ 1) q)) nd → X 43 [some (.ref 0), some (.int (nI 1)), some (.int x), some (.int (nI k))] [] sh_10 (mput σ 0 0 (nI 0)) 0 0 := by
          intro x hx
          refine hX _ _ _ _ _ _ _ ?_
          have h9 := ih (k + 1) (by omega) (by omega)
          rw [← hx, ← nI_1 k] at h9
          exact h9
        refine hX _ _ _ _ _ _ _ ?_
        refine ⟨vp_in_nI (n := 6) (by omega) (by omega), ?_⟩
        refine b_ge rfl hB.2.2.2.1.1 (by omega) (by omega) (fun h => by omega) (fun _ => ?_)
        refine ⟨fun h => absurd h (by decide +kernel), fun _ => ?_⟩
        refine g_hasFor (by omega) c7 c8 c1 c3 (by omega) (fun hh => ?_) (fun hh => ?_)
        · refine ⟨fun _ => ?_, fun h => absurd h (by decide +kernel)⟩
          refine nxt _ (set_congr nd (fun q _ => ?_))
          by_cases e : q = k
          · subst e
            have : hsB (σ 1) q = true := by unfold hsB; rw [el, eh]; exact decide_eq_true hh
            rw [this, Bool.or_true, Bool.or_true]
          · by_cases e2 : k ≤ q
            · rw [show decide (k ≤ q) = true from decide_eq_true e2, show decide (k + 1 ≤ q) = true from decide_eq_true (by omega)]
            · rw [show decide (k ≤ q) = false from decide_eq_false e2, show decide (k + 1 ≤ q) = false from decide_eq_false (by omega)]
        · refine ⟨fun h => absurd rfl h, fun _ => ?_⟩
          refine nxt _ ?_
          refine (set_clr (j := k) (by omega) (by omega)).trans (set_congr nd (fun q _ => ?_))
          by_cases e : q = k
          · subst e
            have : hsB (σ 1) q = false := by unfold hsB; rw [el, eh]; exact decide_eq_false hh
            rw [this, show decide (q ≠ q) = false from decide_eq_false (fun z => z rfl), Bool.and_false, show decide (q + 1 ≤ q) = false from decide_eq_false (by omega)]
            simp
          · rw [show decide (q ≠ k) = true from decide_eq_true e, Bool.and_true]
            by_cases e2 : k ≤ q
            · rw [show decide (k ≤ q) = true from decide_eq_true e2, show decide (k + 1 ≤ q) = true from decide_eq_true (by omega)]
            · rw [show decide (k ≤ q) = false from decide_eq_false e2, show decide (k + 1 ≤ q) = false from decide_eq_false (by omega)]
    refine hX _ _ _ _ _ _ _ ?_
    refine g_openOnes hBt ?_
    have h9 := loop _ 0 rfl (Nat.zero_le _)
    rw [show sSet (fun q => opB (σ 1) q && (decide (0 ≤ q) || hsB (σ 1) q)) nd = sSet (opB (σ 1)) nd from set_congr nd (fun q _ => by rw [decide_eq_true (Nat.zero_le q), Bool.true_or, Bool.and_true])] at h9
    exact h9
theorem g_wanted {p : Int32} (hB : BD (σ 1) n nc ns nd) (q1 : ∀ g, 1 ≤ g → g ≤ 6 → p = nI g → ∀ σ', MX σ (σ 1) (nI 0) σ' → Q (.inl (some (.int (sWnt (σ 1) nd g)))) sh_10 σ') (q0 : (¬ ∃ k, 1 ≤ k ∧ k ≤ 6 ∧ p = nI k) → ∀ σ', MX σ (σ 1) (nI 1) σ' → Q (.inl (some (.int (nI 0)))) sh_10 σ') : mD (d + 4) 214 [.ref 0, .int p] sh_10 σ Q := by
  have hn := hB.2.2.2.1.2
  refine ⟨rfl, fun X hX => ?_⟩
  refine hX _ _ _ _ _ _ _ ?_
  refine g_isGrain (fun h2 => ?_) (fun h2 => ?_)
  · rw [sIn2_iff (by omega) (by omega)] at h2
    obtain ⟨g, g1, g2, rfl⟩ := h2
    have hq := q1 g g1 g2 rfl
    unfold sWnt at hq
    generalize hP : (fun k => opB (σ 1) k && decide (dLo (σ 1) k ≤ g ∧ g ≤ dHi (σ 1) k)) = P at hq
    refine ⟨fun _ => ?_, fun z => absurd z (by decide +kernel)⟩
    refine hX _ _ _ _ _ _ _ ?_
    refine hX _ _ _ _ _ _ _ ?_
    refine ⟨fun _ => ?_, fun z => absurd (show nI 0 ≤ 0 from by decide +kernel) z⟩
    have loop : ∀ j k, nd - k = j → k ≤ nd → X 29 [some (.ref 0), some (.int (nI g)), some (.int (sSet P k)), some (.int (nI k))] [] sh_10 (mput σ 0 0 (nI 0)) 0 0 := by
      intro j
      induction j with
      | zero =>
        intro k hj hk
        have ek : k = nd := by omega
        subst ek
        refine hX _ _ _ _ _ _ _ ?_
        refine ⟨vp_in_nI (n := 6) (by omega) (by omega), ?_⟩
        refine b_ge rfl hB.2.2.2.1.1 (by omega) (by omega) (fun _ => ?_) (fun h => by omega)
        refine hX _ _ _ _ _ _ _ ?_
        exact hq _ MX.th
      | succ j ih =>
        intro k hj hk
        obtain ⟨lo, hi, q, p, c1, c2, c3, c4, c5, c6, c7, c8, c9, c10, c11⟩ := hB.2.2.2.2.2.2.2.1 k (by omega)
        have el : dLo (σ 1) k = lo := by unfold dLo; rw [c7, nI_clamp (by omega)]
        have eh : dHi (σ 1) k = hi := by unfold dHi; rw [c8, nI_clamp (by omega)]
        have hPk : P k = true ↔ σ 1 (93 + 5 * k + 4) = nI 1 ∧ lo ≤ g ∧ g ≤ hi := by
          rw [← hP]
          show (decide _ && decide _) = true ↔ _
          rw [el, eh, Bool.and_eq_true, decide_eq_true_eq, decide_eq_true_eq]
        have h9 := ih (k + 1) (by omega) (by omega)
        have no : ¬ P k = true → X 74 [some (.ref 0), some (.int (nI g)), none, some (.int (nI k))] [.int (sSet P k)] sh_10 (mput σ 0 0 (nI 0)) 0 0 := by
          intro hp
          refine hX _ _ _ _ _ _ _ ?_
          refine hX _ _ _ _ _ _ _ ?_
          rw [set_or0 hp, ← nI_1 k] at h9
          exact h9
        refine hX _ _ _ _ _ _ _ ?_
        refine ⟨vp_in_nI (n := 6) (by omega) (by omega), ?_⟩
        refine b_ge rfl hB.2.2.2.1.1 (by omega) (by omega) (fun h => by omega) (fun _ => ?_)
        refine g_isOpen (by omega) (fun ho => ?_) (fun ho => ?_)
        · refine ⟨fun h => absurd h (by decide +kernel), fun _ => ?_⟩
          refine g_ofDeal (w := 0) (by omega) (by omega) ?_
          refine g_ofDeal (w := 1) (by omega) (by omega) ?_
          refine g_isIn (fun hi2 => ?_) (fun hi2 => ?_)
          · have hi2 : sIn (nI g) (σ 1 (93 + 5 * k)) (σ 1 (93 + 5 * k + 1)) := hi2
            unfold sIn at hi2
            rw [c7, c8, nI_leI (by omega) (by omega), nI_leI (by omega) (by omega)] at hi2
            refine ⟨fun h => absurd h (by decide +kernel), fun _ => ?_⟩
            refine hX _ _ _ _ _ _ _ ?_
            rw [sSet, if_pos (hPk.mpr ⟨ho, hi2.1, hi2.2⟩), ← nI_1 k] at h9
            exact h9
          · have hi2 : ¬ sIn (nI g) (σ 1 (93 + 5 * k)) (σ 1 (93 + 5 * k + 1)) := hi2
            unfold sIn at hi2
            rw [c7, c8, nI_leI (by omega) (by omega), nI_leI (by omega) (by omega)] at hi2
            refine ⟨fun _ => ?_, fun h => absurd rfl h⟩
            exact no (fun z => hi2 (hPk.mp z).2)
        · refine ⟨fun _ => ?_, fun h => absurd rfl h⟩
          exact no (fun z => ho (hPk.mp z).1)
    refine hX _ _ _ _ _ _ _ ?_
    exact loop _ 0 rfl (Nat.zero_le _)
  · rw [sIn2_iff (by omega) (by omega)] at h2
    refine ⟨fun z => absurd rfl z, fun _ => ?_⟩
    refine hX _ _ _ _ _ _ _ ?_
    refine ⟨fun z => absurd (show nI 1 ≤ 0 from z) (by decide +kernel), fun _ => ?_⟩
    exact q0 h2 _ MX.th
end MY2
