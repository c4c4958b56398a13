/-! THE MODEL: classes, runs -/
theorem sIs_01 {x y : Int32} : sIs x y = 0 ∨ sIs x y = nI 1 := by
  unfold sIs
  generalize x >>> (y &&& 31) = z
  cases hb : bt z 0 with
  | true =>
    refine Or.inr (b_ext (fun i hi => ?_))
    rw [b_and, b_1 i hi]
    by_cases e : i = 0
    · subst e; rw [hb]; rfl
    · rw [decide_eq_false e, Bool.and_false]
  | false =>
    refine Or.inl (b_ext (fun i hi => ?_))
    rw [b_and, b_1 i hi, b_0]
    by_cases e : i = 0
    · subst e; rw [hb]; rfl
    · rw [decide_eq_false e, Bool.and_false]
section MSI
variable {d : Nat} {σ : mSg} {Q : mPst} {n nc ns nd : Nat} {sh : List mSh}
/-- whether a run begins -/
def ib (C g : Nat) : Bool := decide (g = 1) || cb C g
theorem g_isBegin {g : Nat} {set y : Int32} (hy : y = nI g) (hg : g < 8) (hB : BD (σ 1) n nc ns nd) (q1 : ib (cuN (σ 1) set ns) g = true → Q (.inl (some (.int (nI 1)))) sh_10 σ) (q0 : ¬ ib (cuN (σ 1) set ns) g = true → Q (.inl (some (.int (nI 0)))) sh_10 σ) : mD (d + 2) 169 [.ref 0, .int set, .int y] sh_10 σ Q := by
  subst hy
  have hn := hB.2.2.1.2
  refine ⟨rfl, fun X hX => ?_⟩
  have loop : ∀ j k x, ns - k = j → k ≤ ns → x = (if ib (cuN (σ 1) set k) g = true then nI 1 else nI 0) → X 14 [some (.ref 0), some (.int set), some (.int (nI g)), some (.int x), some (.int (nI k))] [] sh_10 σ 0 0 := by
    intro j
    induction j with
    | zero =>
      intro k x hj hk hx
      have ek : k = ns := by omega
      subst ek
      refine hX _ _ _ _ _ _ _ ?_
      refine ⟨vp_in_nI (n := 5) (by omega) (by omega), ?_⟩
      refine b_ge rfl hB.2.2.1.1 (by omega) (by omega) (fun _ => ?_) (fun h => by omega)
      refine hX _ _ _ _ _ _ _ ?_
      by_cases h : ib (cuN (σ 1) set k) g = true
      · rw [if_pos h] at hx
        subst hx
        exact ⟨Or.inr rfl, q1 h⟩
      · rw [if_neg h] at hx
        subst hx
        exact ⟨Or.inl rfl, q0 h⟩
    | succ j ih =>
      intro k x hj hk hx
      obtain ⟨e, m1, m2⟩ := mN_ok hB (show k < ns by omega)
      have hd : cuN (σ 1) set (k + 1) = if sIs set (nI k) = 0 then cuN (σ 1) set k else cuN (σ 1) set k ||| 2 ^ mN (σ 1) k := rfl
      have nxt : ∀ x, x = (if ib (cuN (σ 1) set (k + 1)) g = true then nI 1 else nI 0) → X 57 [some (.ref 0), some (.int set), some (.int (nI g)), none, some (.int (nI k))] [.int x] sh_10 σ 0 0 := by
        intro x hx
        refine hX _ _ _ _ _ _ _ ?_
        have h9 := ih (k + 1) x (by omega) (by omega) hx
        rw [← nI_1 k] at h9
        exact h9
      have yes : ib (cuN (σ 1) set (k + 1)) g = true → X 52 [some (.ref 0), some (.int set), some (.int (nI g)), none, some (.int (nI k))] [] sh_10 σ 0 0 := by
        intro h
        refine hX _ _ _ _ _ _ _ ?_
        exact nxt (nI 1) (if_pos h).symm
      have no : ¬ ib (cuN (σ 1) set (k + 1)) g = true → X 56 [some (.ref 0), some (.int set), some (.int (nI g)), none, some (.int (nI k))] [] sh_10 σ 0 0 := by
        intro h
        refine hX _ _ _ _ _ _ _ ?_
        exact nxt (nI 0) (if_neg h).symm
      refine hX _ _ _ _ _ _ _ ?_
      refine ⟨vp_in_nI (n := 5) (by omega) (by omega), ?_⟩
      refine b_ge rfl hB.2.2.1.1 (by omega) (by omega) (fun h => by omega) (fun _ => ?_)
      by_cases h : ib (cuN (σ 1) set k) g = true
      · rw [if_pos h] at hx
        subst hx
        refine ⟨fun _ => yes ?_, fun z => absurd z (by decide +kernel)⟩
        rw [hd]
        split
        · exact h
        · unfold ib cb at h ⊢
          rw [Nat.testBit_or, ← Bool.or_assoc, h, Bool.true_or]
      · rw [if_neg h] at hx
        subst hx
        refine ⟨fun z => absurd rfl z, fun _ => ?_⟩
        refine g_isOf (fun ho => ?_) (fun ho => ?_)
        · have o1 : ¬ sIs set (nI k) = 0 := by rw [ho]; decide +kernel
          rw [if_neg o1] at hd
          refine ⟨fun z => absurd z (by decide +kernel), fun _ => ?_⟩
          have e2 : nI 89 + nI k = nI (89 + k) := nI_add _ _
          refine ⟨vin e2 (by omega) (by omega), ?_⟩
          refine b_ne (show σ 1 (nI 89 + nI k).toNatClampNeg = nI (mN (σ 1) k) by rw [clN e2 (by omega)]; exact e) rfl (by omega) (by omega) (fun hne => no ?_) (fun heq => yes ?_)
          · rw [hd]
            unfold ib cb at h ⊢
            rw [Nat.testBit_or, Nat.testBit_two_pow, decide_eq_false hne, Bool.or_false]
            exact h
          · rw [hd]
            unfold ib cb
            rw [Nat.testBit_or, Nat.testBit_two_pow, decide_eq_true heq, Bool.or_true, Bool.or_true]
        · have o1 : sIs set (nI k) = 0 := sIs_01.elim id (fun z => absurd z ho)
          rw [if_pos o1] at hd
          refine ⟨fun _ => no (by rw [hd]; exact h), fun z => absurd rfl z⟩
  have i0 : ib (cuN (σ 1) set 0) g = decide (g = 1) := by
    show (decide (g = 1) || Nat.testBit 0 g) = _
    rw [Nat.zero_testBit, Bool.or_false]
  refine hX _ _ _ _ _ _ _ ?_
  refine b_ne rfl (b := 1) rfl (by omega) (by omega) (fun h => ?_) (fun h => ?_)
  · refine hX _ _ _ _ _ _ _ ?_
    refine hX _ _ _ _ _ _ _ ?_
    exact loop _ 0 (nI 0) rfl (Nat.zero_le _) (by rw [i0, decide_eq_false h]; rfl)
  · refine hX _ _ _ _ _ _ _ ?_
    exact loop _ 0 (nI 1) rfl (Nat.zero_le _) (by rw [i0, decide_eq_true h]; rfl)
theorem g_runLow {g : Nat} {set y : Int32} (hy : y = nI g) (h1 : 1 ≤ g) (hg : g < 7) (hB : BD (σ 1) n nc ns nd) (hq : Q (.inl (some (.int (nI (rL (cb (cuN (σ 1) set ns)) g))))) sh_10 σ) : mD (d + 3) 170 [.ref 0, .int set, .int y] sh_10 σ Q := by
  subst hy
  generalize hC : cb (cuN (σ 1) set ns) = C at hq
  refine ⟨rfl, fun X hX => ?_⟩
  have loop : ∀ k, 1 ≤ k → k < 7 → rL C k = rL C g → X 2 [some (.ref 0), some (.int set), none, some (.int (nI k))] [] sh_10 σ 0 0 := by
    intro k
    induction k with
    | zero => intro h; omega
    | succ k ih =>
      intro k1 k7 e
      have hi : ib (cuN (σ 1) set ns) (k + 1) = (decide (k + 1 = 1) || C (k + 1)) := by rw [← hC]; rfl
      refine hX _ _ _ _ _ _ _ ?_
      refine g_isBegin (g := k + 1) rfl (by omega) hB (fun h => ?_) (fun h => ?_)
      · refine ⟨fun _ => ?_, fun z => absurd z (by decide +kernel)⟩
        refine hX _ _ _ _ _ _ _ ?_
        have ed : rL C (k + 1) = k + 1 := by
          by_cases k0 : k = 0
          · subst k0; rfl
          · rw [hi, decide_eq_false (by omega), Bool.false_or] at h
            rw [rL, if_neg k0, if_pos h]
        rw [← e, ed] at hq
        exact hq
      · refine ⟨fun z => absurd rfl z, fun _ => ?_⟩
        rw [hi] at h
        have k0 : k ≠ 0 := by
          rintro rfl
          exact h rfl
        rw [decide_eq_false (by omega), Bool.false_or] at h
        have ed : rL C (k + 1) = rL C k := by rw [rL, if_neg k0, if_neg h]
        have h9 := ih (by omega) (by omega) (by rw [← ed]; exact e)
        have e3 : nI (k + 1) - nI 1 = nI k := by rw [nI_sub (by omega), Nat.add_sub_cancel]
        rw [← e3] at h9
        exact h9
  refine hX _ _ _ _ _ _ _ ?_
  exact loop g h1 hg rfl
theorem g_runHigh {g : Nat} {set y : Int32} (hy : y = nI g) (h1 : 1 ≤ g) (hg : g < 7) (hB : BD (σ 1) n nc ns nd) (hq : Q (.inl (some (.int (nI (rH (cb (cuN (σ 1) set ns)) (6 - g) g))))) sh_10 σ) : mD (d + 3) 171 [.ref 0, .int set, .int y] sh_10 σ Q := by
  subst hy
  generalize hC : cb (cuN (σ 1) set ns) = C at hq
  refine ⟨rfl, fun X hX => ?_⟩
  have loop : ∀ j k, 6 - k = j → 1 ≤ k → k ≤ 6 → rH C j k = rH C (6 - g) g → X 2 [some (.ref 0), some (.int set), none, some (.int (nI k))] [] sh_10 σ 0 0 := by
    intro j
    induction j with
    | zero =>
      intro k hk k1 k6 e
      have ek : k = 6 := by omega
      subst ek
      refine hX _ _ _ _ _ _ _ ?_
      refine b_ge rfl (b := 6) rfl (by omega) (by omega) (fun h => ?_) (fun h => by omega)
      refine hX _ _ _ _ _ _ _ ?_
      rw [← e] at hq
      exact hq
    | succ j ih =>
      intro k hk k1 k6 e
      have hi : ib (cuN (σ 1) set ns) (k + 1) = C (k + 1) := by
        rw [← hC]
        unfold ib
        rw [decide_eq_false (by omega), Bool.false_or]
      refine hX _ _ _ _ _ _ _ ?_
      refine b_ge rfl (b := 6) rfl (by omega) (by omega) (fun h => by omega) (fun h => ?_)
      have ed : rH C (j + 1) k = if C (k + 1) = true then k else rH C j (k + 1) := rfl
      refine g_isBegin (g := k + 1) (nI_add k 1) (by omega) hB (fun hc => ?_) (fun hc => ?_)
      · rw [hi] at hc
        refine ⟨fun _ => ?_, fun z => absurd z (by decide +kernel)⟩
        refine hX _ _ _ _ _ _ _ ?_
        rw [if_pos hc] at ed
        rw [← e, ed] at hq
        exact hq
      · rw [hi] at hc
        refine ⟨fun z => absurd rfl z, fun _ => ?_⟩
        rw [if_neg hc] at ed
        have h9 := ih (k + 1) (by omega) (by omega) (by omega) (by rw [← ed]; exact e)
        rw [← nI_1 k] at h9
        exact h9
  refine hX _ _ _ _ _ _ _ ?_
  exact loop _ g rfl h1 (by omega) rfl
theorem g_classes {p : Int32} (hB : BD (σ 1) n nc ns nd) (hq : ∀ σ', MX σ (σ 1) (nI 0) σ' → Q (.inl (some (.int (nI (sb (cuN (σ 1) p ns) 6))))) sh_10 σ') : mD (d + 3) 172 [.ref 0, .int p] sh_10 σ Q := by
  have hBt : BD (mput σ 0 0 (nI 0) 1) n nc ns nd := hB
  refine ⟨rfl, fun X hX => ?_⟩
  have loop : ∀ j k, 6 - k = j → k ≤ 6 → X 9 [some (.ref 0), some (.int p), some (.int (nI (sb (cuN (σ 1) p ns) k))), some (.int (nI (k + 1)))] [] sh_10 (mput σ 0 0 (nI 0)) 0 0 := by
    intro j
    induction j with
    | zero =>
      intro k hj hk
      have ek : k = 6 := by omega
      subst ek
      refine hX _ _ _ _ _ _ _ ?_
      refine b_gt rfl (b := 6) rfl (by omega) (by omega) (fun _ => ?_) (fun h => by omega)
      refine hX _ _ _ _ _ _ _ ?_
      exact hq _ MX.th
    | succ j ih =>
      intro k hj hk
      have h9 := ih (k + 1) (by omega) (by omega)
      have hd : sb (cuN (σ 1) p ns) (k + 1) = sb (cuN (σ 1) p ns) k + (if k + 1 = 1 ∨ cb (cuN (σ 1) p ns) (k + 1) = true then 1 else 0) := rfl
      refine hX _ _ _ _ _ _ _ ?_
      refine b_gt rfl (b := 6) rfl (by omega) (by omega) (fun h => by omega) (fun _ => ?_)
      refine g_isBegin (g := k + 1) rfl (by omega) hBt (fun h => ?_) (fun h => ?_)
      · have h : ib (cuN (σ 1) p ns) (k + 1) = true := h
        unfold ib at h
        rw [Bool.or_eq_true, decide_eq_true_iff] at h
        rw [if_pos h] at hd
        refine ⟨fun z => absurd z (by decide +kernel), fun _ => ?_⟩
        refine hX _ _ _ _ _ _ _ ?_
        rw [hd, ← nI_add, ← nI_1 (k + 1)] at h9
        exact h9
      · have h : ¬ ib (cuN (σ 1) p ns) (k + 1) = true := h
        unfold ib at h
        rw [Bool.or_eq_true, decide_eq_true_iff] at h
        rw [if_neg h] at hd
        refine ⟨fun _ => ?_, fun z => absurd rfl z⟩
        refine hX _ _ _ _ _ _ _ ?_
        refine hX _ _ _ _ _ _ _ ?_
        rw [hd, ← nI_add, ← nI_1 (k + 1)] at h9
        exact h9
  refine hX _ _ _ _ _ _ _ ?_
  exact loop _ 0 rfl (Nat.zero_le _)
theorem g_classOf {p g : Int32} (hB : BD (σ 1) n nc ns nd) (q1 : ∀ k, 1 ≤ k → k ≤ 6 → g = nI k → ∀ σ', MX σ (σ 1) (nI 0) σ' → Q (.inl (some (.int (sCO (σ 1) ns p k)))) sh_10 σ') (q0 : (¬ ∃ k, 1 ≤ k ∧ k ≤ 6 ∧ g = nI k) → ∀ σ', MX σ (σ 1) (nI 1) σ' → Q (.inl (some (.int (nI 0)))) sh_10 σ') : mD (d + 4) 173 [.ref 0, .int p, .int g] sh_10 σ Q := by
  have hBt : BD (mput σ 0 0 (nI 0) 1) n nc ns nd := hB
  refine ⟨rfl, fun X hX => ?_⟩
  refine hX _ _ _ _ _ _ _ ?_
  refine g_isGrain (fun h2 => ?_) (fun h2 => ?_)
  · rw [sIn2_iff (by omega) (by omega)] at h2
    obtain ⟨k, k1, k2, rfl⟩ := h2
    refine ⟨fun _ => ?_, fun z => absurd z (by decide +kernel)⟩
    refine hX _ _ _ _ _ _ _ ?_
    refine hX _ _ _ _ _ _ _ ?_
    refine ⟨fun _ => ?_, fun z => absurd (show nI 0 ≤ 0 from by decide +kernel) z⟩
    refine hX _ _ _ _ _ _ _ ?_
    refine g_runLow rfl k1 (by omega) hBt ?_
    refine g_runHigh rfl k1 (by omega) hBt ?_
    refine hX _ _ _ _ _ _ _ ?_
    exact q1 k k1 k2 rfl _ MX.th
  · rw [sIn2_iff (by omega) (by omega)] at h2
    refine ⟨fun z => absurd rfl z, fun _ => ?_⟩
    refine hX _ _ _ _ _ _ _ ?_
    refine ⟨fun z => absurd (show nI 1 ≤ 0 from z) (by decide +kernel), fun _ => ?_⟩
    refine hX _ _ _ _ _ _ _ ?_
    exact q0 h2 _ MX.th
theorem g_held {p g : Int32} (hB : BD (σ 1) n nc ns nd) (q1 : ∀ k, 1 ≤ k → k ≤ 6 → g = nI k → ∀ σ', MX σ (σ 1) (nI 0) σ' → Q (.inl (some (.int (sHe (σ 1) ns p k k)))) sh_10 σ') (q0 : (¬ ∃ k, 1 ≤ k ∧ k ≤ 6 ∧ g = nI k) → ∀ σ', MX σ (σ 1) (nI 1) σ' → Q (.inl (some (.int (nI 0)))) sh_10 σ') : mD (d + 4) 174 [.ref 0, .int p, .int g] sh_10 σ Q := by
  have hBt : BD (mput σ 0 0 (nI 0) 1) n nc ns nd := hB
  refine ⟨rfl, fun X hX => ?_⟩
  refine hX _ _ _ _ _ _ _ ?_
  refine g_isGrain (fun h2 => ?_) (fun h2 => ?_)
  · rw [sIn2_iff (by omega) (by omega)] at h2
    obtain ⟨k, k1, k2, rfl⟩ := h2
    have a1 := rL_ok (c := cb (cuN (σ 1) p ns)) k k1
    have a2 : rH (cb (cuN (σ 1) p ns)) (6 - k) k ≤ 6 := by have := rH_ok (c := cb (cuN (σ 1) p ns)) (6 - k) k; omega
    have a3 : rL (cb (cuN (σ 1) p ns)) k ≤ 6 := by omega
    refine ⟨fun _ => ?_, fun z => absurd z (by decide +kernel)⟩
    refine hX _ _ _ _ _ _ _ ?_
    refine hX _ _ _ _ _ _ _ ?_
    refine ⟨fun _ => ?_, fun z => absurd (show nI 0 ≤ 0 from by decide +kernel) z⟩
    refine hX _ _ _ _ _ _ _ ?_
    refine g_runLow rfl k1 (by omega) hBt ?_
    refine g_runHigh rfl k1 (by omega) hBt ?_
    refine g_heapBetween a1.1 a2 a3 ?_
    refine hX _ _ _ _ _ _ _ ?_
    exact q1 k k1 k2 rfl _ MX.th
  · rw [sIn2_iff (by omega) (by omega)] at h2
    refine ⟨fun z => absurd rfl z, fun _ => ?_⟩
    refine hX _ _ _ _ _ _ _ ?_
    refine ⟨fun z => absurd (show nI 1 ≤ 0 from z) (by decide +kernel), fun _ => ?_⟩
    refine hX _ _ _ _ _ _ _ ?_
    exact q0 h2 _ MX.th
theorem g_heapBetweenE {lo hi : Nat} {x y : Int32} (hx : x = nI lo) (hy : y = nI hi) (h1 : 1 ≤ lo) (h2 : hi ≤ 6) (h3 : lo ≤ 6) (hq : Q (.inl (some (.int (sHS (σ 1) lo (hi + 1 - lo))))) sh_10 σ) : mD (d + 2) 139 [.ref 0, .int x, .int y] sh_10 σ Q := by
  subst hx; subst hy
  exact g_heapBetween h1 h2 h3 hq
theorem g_clean {p s : Int32} (hB : BD (σ 1) n nc ns nd) (q1 : ∀ k, k < nd → p = nI k → ∀ σ', MX σ (σ 1) (nI 0) σ' → Q (.inl (some (.int (sCl (σ 1) ns s k)))) sh_10 σ') (q0 : (¬ ∃ k, k < nd ∧ p = nI k) → ∀ σ', MX σ (σ 1) (nI 1) σ' → Q (.inl (some (.int (nI 0)))) sh_10 σ') : mD (d + 4) 177 [.ref 0, .int p, .int s] sh_10 σ Q := by
  have hBt : BD (mput σ 0 0 (nI 0) 1) n nc ns nd := hB
  have hn := hB.2.2.2.1.2
  refine ⟨rfl, fun X hX => ?_⟩
  refine hX _ _ _ _ _ _ _ ?_
  refine g_isDeal (fun h => ?_) (fun h => ?_)
  · rw [hB.2.2.2.1.1, sIn_iff (by omega)] at h
    obtain ⟨k, hk, rfl⟩ := h
    have hq := q1 k hk rfl _ MX.th
    unfold sCl at hq
    obtain ⟨d1, d2, d3, d4, d5⟩ := hB.dl hk
    have a1 := rL_ok (c := cb (cuN (σ 1) s ns)) (dLo (σ 1) k) d3
    have a2 : rH (cb (cuN (σ 1) s ns)) (6 - dHi (σ 1) k) (dHi (σ 1) k) ≤ 6 := by have := rH_ok (c := cb (cuN (σ 1) s ns)) (6 - dHi (σ 1) k) (dHi (σ 1) k); omega
    have a3 : rL (cb (cuN (σ 1) s ns)) (dLo (σ 1) k) ≤ 6 := by omega
    refine ⟨fun _ => ?_, fun z => absurd z (by decide +kernel)⟩
    refine hX _ _ _ _ _ _ _ ?_
    refine hX _ _ _ _ _ _ _ ?_
    refine ⟨fun _ => ?_, fun z => absurd (show nI 0 ≤ 0 from by decide +kernel) z⟩
    refine hX _ _ _ _ _ _ _ ?_
    refine g_ofDeal (w := 0) (by omega) (by omega) ?_
    refine g_runLow d1 d3 (by omega) hBt ?_
    refine g_ofDeal (w := 1) (by omega) (by omega) ?_
    refine g_runHigh d2 (by omega) (by omega) hBt ?_
    refine g_heapBetween a1.1 a2 a3 ?_
    refine ⟨fun h => ?_, fun h => ?_⟩
    · have h : ¬ sHe (σ 1) ns s (dLo (σ 1) k) (dHi (σ 1) k) = 0 := h
      rw [if_neg h, Int32.mul_comm] at hq
      refine hX _ _ _ _ _ _ _ ?_
      refine g_ofDeal (w := 0) (by omega) (by omega) ?_
      refine g_ofDeal (w := 1) (by omega) (by omega) ?_
      refine g_heapBetweenE d1 d2 d3 d5 (by omega) ?_
      refine ⟨h, ?_⟩
      refine hX _ _ _ _ _ _ _ ?_
      exact hq
    · have h : sHe (σ 1) ns s (dLo (σ 1) k) (dHi (σ 1) k) = 0 := h
      rw [if_pos h] at hq
      refine hX _ _ _ _ _ _ _ ?_
      exact hq
  · rw [hB.2.2.2.1.1, sIn_iff (by omega)] at h
    refine ⟨fun z => absurd rfl z, fun _ => ?_⟩
    refine hX _ _ _ _ _ _ _ ?_
    refine ⟨fun z => absurd (show nI 1 ≤ 0 from z) (by decide +kernel), fun _ => ?_⟩
    exact q0 h _ MX.th
end MSI
