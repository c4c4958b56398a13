/-! CONTRACTS TWO BY TWO: what both sides say -/
def foP (v0 : Nat) (val : Nat → Option Nat) : Nat → Nat × Option Nat
  | 0 => (v0, none)
  | i + 1 => match val i with
    | none => foP v0 val i
    | some v => if (foP v0 val i).1 < v then (v, some i) else foP v0 val i
def pvl (pr : Nat → Nat → Option Nat) (V : Nat → Nat) (c S o : Nat) : Option Nat := if c < o ∧ S.testBit o = true then (match pr c o with | none => none | some p => some (p + V (S - 2 ^ c - 2 ^ o))) else none
def pqV (nd : Nat) (pr : Nat → Nat → Option Nat) : Nat → Nat → Nat
  | 0, _ => 0
  | j + 1, S => if S.testBit (nd - (j + 1)) = true then (foP (pqV nd pr j (S - 2 ^ (nd - (j + 1)))) (pvl pr (pqV nd pr j) (nd - (j + 1)) S) nd).1 else pqV nd pr j S
def pqR (nd : Nat) (pr : Nat → Nat → Option Nat) : Nat → Nat → (Nat → Int32) → Nat → Int32
  | 0, _, w => w
  | j + 1, S, w => if S.testBit (nd - (j + 1)) = true then (match (foP (pqV nd pr j (S - 2 ^ (nd - (j + 1)))) (pvl pr (pqV nd pr j) (nd - (j + 1)) S) nd).2 with | none => pqR nd pr j (S - 2 ^ (nd - (j + 1))) w | some o => pqR nd pr j (S - 2 ^ (nd - (j + 1)) - 2 ^ o) (upd (upd w (nd - (j + 1)) (nI o)) o (nI (nd - (j + 1))))) else pqR nd pr j S w
theorem foP_s {v0 : Nat} {val : Nat → Option Nat} {i : Nat} : foP v0 val (i + 1) = (match val i with | none => foP v0 val i | some v => if (foP v0 val i).1 < v then (v, some i) else foP v0 val i) := rfl
theorem foP_ok {v0 : Nat} {val : Nat → Option Nat} : ∀ k, v0 ≤ (foP v0 val k).1 ∧ (∀ i v, i < k → val i = some v → v ≤ (foP v0 val k).1) ∧ ((foP v0 val k).2 = none → (foP v0 val k).1 = v0) ∧ (∀ i, (foP v0 val k).2 = some i → i < k ∧ val i = some (foP v0 val k).1 ∧ v0 < (foP v0 val k).1 ∧ ∀ j v, j < i → val j = some v → v < (foP v0 val k).1)
  | 0 => ⟨Nat.le_refl _, fun i v h => absurd h (by omega), fun _ => rfl, fun i h => by cases h⟩
  | k + 1 => by
    obtain ⟨h1, h2, h3, h4⟩ := foP_ok (v0 := v0) (val := val) k
    rw [foP_s]
    cases hv : val k with
    | none =>
      refine ⟨h1, fun i v hi e => ?_, h3, fun i e => ?_⟩
      · by_cases ei : i = k
        · rw [ei, hv] at e; cases e
        · exact h2 i v (by omega) e
      · obtain ⟨a, b, c, d⟩ := h4 i e
        exact ⟨by omega, b, c, d⟩
    | some x =>
      show v0 ≤ (if _ then _ else _ : Nat × Option Nat).1 ∧ _
      by_cases hx : (foP v0 val k).1 < x
      · simp only [if_pos hx]
        refine ⟨by omega, fun i v hi e => ?_, fun e => (by cases e), fun i e => ?_⟩
        · by_cases ei : i = k
          · rw [ei, hv] at e; cases e; exact Nat.le_refl _
          · have := h2 i v (by omega) e
            omega
        · cases e
          exact ⟨by omega, hv, by omega, fun j v hj e => by have := h2 j v hj e; omega⟩
      · simp only [if_neg hx]
        refine ⟨h1, fun i v hi e => ?_, h3, fun i e => ?_⟩
        · by_cases ei : i = k
          · rw [ei, hv] at e; cases e; omega
          · exact h2 i v (by omega) e
        · obtain ⟨a, b, c, d⟩ := h4 i e
          exact ⟨by omega, b, c, d⟩
theorem foP_lo {v0 : Nat} {val : Nat → Option Nat} : ∀ k, (∀ i, i < k → val i = none) → foP v0 val k = (v0, none)
  | 0, _ => rfl
  | k + 1, h => by rw [foP_s, h k (by omega)]; exact foP_lo k (fun i hi => h i (by omega))
theorem foP_le {v0 b : Nat} {val : Nat → Option Nat} (h0 : v0 ≤ b) (hv : ∀ i v, val i = some v → v ≤ b) (k : Nat) : (foP v0 val k).1 ≤ b := by
  obtain ⟨h1, h2, h3, h4⟩ := foP_ok (v0 := v0) (val := val) k
  cases e : (foP v0 val k).2 with
  | none => rw [h3 e]; exact h0
  | some i => exact hv i _ (h4 i e).2.1
theorem sb_out : ∀ S, S < 128 → ∀ k, k < 7 → S.testBit k = true → ∀ i, i < 7 → (S - 2 ^ k).testBit i = (S.testBit i && !(i == k)) := by decide +kernel
theorem sb_lt : ∀ S, S < 128 → ∀ k, k < 7 → S.testBit k = true → S - 2 ^ k < S := by decide +kernel
theorem pvl_some {pr : Nat → Nat → Option Nat} {V : Nat → Nat} {c S o v : Nat} (h : pvl pr V c S o = some v) : c < o ∧ S.testBit o = true ∧ ∃ p, pr c o = some p ∧ v = p + V (S - 2 ^ c - 2 ^ o) := by
  unfold pvl at h
  split at h
  · rename_i hc
    split at h
    · cases h
    · rename_i p hp
      cases h
      exact ⟨hc.1, hc.2, p, hp, rfl⟩
  · cases h
theorem pqV_le {nd : Nat} {pr : Nat → Nat → Option Nat} (hp : ∀ c o p, pr c o = some p → p ≤ 18) : ∀ j S, pqV nd pr j S ≤ 18 * j
  | 0, _ => Nat.le_refl _
  | j + 1, S => by
    rw [pqV]
    split
    · refine foP_le ?_ (fun i v h => ?_) nd
      · have := pqV_le hp (nd := nd) j (S - 2 ^ (nd - (j + 1)))
        omega
      · obtain ⟨-, -, p, h1, h2⟩ := pvl_some h
        have a := hp _ _ _ h1
        have b := pqV_le hp (nd := nd) j (S - 2 ^ (nd - (j + 1)) - 2 ^ i)
        omega
    · have := pqV_le hp (nd := nd) j S
      omega
theorem pqR_off {nd : Nat} {pr : Nat → Nat → Option Nat} {i : Nat} (hnd : nd ≤ 6) (hi : i < 7) : ∀ j S (w : Nat → Int32), j ≤ nd → S < 2 ^ nd → S.testBit i = false → pqR nd pr j S w i = w i
  | 0, _, _, _, _, _ => rfl
  | j + 1, S, w, hj, hS, hb => by
    have h64 : 2 ^ nd ≤ 64 := Nat.pow_le_pow_right (n := 2) (by omega) hnd
    rw [pqR]
    by_cases hc : S.testBit (nd - (j + 1)) = true
    · rw [if_pos hc]
      have o1 := sb_out S (by omega) (nd - (j + 1)) (by omega) hc
      have l1 := sb_lt S (by omega) (nd - (j + 1)) (by omega) hc
      have ic : i ≠ nd - (j + 1) := fun z => by rw [z, hc] at hb; cases hb
      have b1 : (S - 2 ^ (nd - (j + 1))).testBit i = false := by rw [o1 i hi, hb, Bool.false_and]
      cases e : (foP (pqV nd pr j (S - 2 ^ (nd - (j + 1)))) (pvl pr (pqV nd pr j) (nd - (j + 1)) S) nd).2 with
      | none => exact pqR_off hnd hi j _ w (by omega) (by omega) b1
      | some o =>
        obtain ⟨g1, g2, -, -⟩ := (foP_ok (v0 := pqV nd pr j (S - 2 ^ (nd - (j + 1)))) (val := pvl pr (pqV nd pr j) (nd - (j + 1)) S) nd).2.2.2 o e
        obtain ⟨f1, f2, -⟩ := pvl_some g2
        have bo : (S - 2 ^ (nd - (j + 1))).testBit o = true := by
          rw [o1 o (by omega), f2, show (o == nd - (j + 1)) = false from beq_eq_false_iff_ne.mpr (by omega)]; rfl
        have o2 := sb_out _ (show S - 2 ^ (nd - (j + 1)) < 128 by omega) o (by omega) bo
        have l2 := sb_lt _ (show S - 2 ^ (nd - (j + 1)) < 128 by omega) o (by omega) bo
        have io : i ≠ o := fun z => by rw [z, f2] at hb; cases hb
        show pqR nd pr j (S - 2 ^ (nd - (j + 1)) - 2 ^ o) _ i = w i
        rw [pqR_off hnd hi j _ _ (by omega) (by omega) (by rw [o2 i hi, b1, Bool.false_and]), upd_off io, upd_off ic]
    · rw [if_neg hc]
      exact pqR_off hnd hi j S w (by omega) hS hb
theorem pqR_cg {nd : Nat} {pr : Nat → Nat → Option Nat} (hnd : nd ≤ 6) {w w2 : Nat → Int32} : ∀ j S, j ≤ nd → S < 2 ^ nd → (∀ i, i < 6 → w i = w2 i) → ∀ k, k < 6 → pqR nd pr j S w k = pqR nd pr j S w2 k
  | 0, _, _, _, h, k, hk => h k hk
  | j + 1, S, hj, hS, h, k, hk => by
    have h64 : 2 ^ nd ≤ 64 := Nat.pow_le_pow_right (n := 2) (by omega) hnd
    rw [pqR, pqR]
    by_cases hc : S.testBit (nd - (j + 1)) = true
    · rw [if_pos hc, if_pos hc]
      have o1 := sb_out S (by omega) (nd - (j + 1)) (by omega) hc
      have l1 := sb_lt S (by omega) (nd - (j + 1)) (by omega) hc
      cases e : (foP (pqV nd pr j (S - 2 ^ (nd - (j + 1)))) (pvl pr (pqV nd pr j) (nd - (j + 1)) S) nd).2 with
      | none => exact pqR_cg hnd j _ (by omega) (by omega) h k hk
      | some o =>
        refine pqR_cg hnd j _ (by omega) (Nat.lt_of_le_of_lt (Nat.le_trans (Nat.sub_le _ _) (Nat.sub_le _ _)) hS) (fun i hi => ?_) k hk
        by_cases e1 : i = o
        · rw [e1, upd_at, upd_at]
        · rw [upd_off e1, upd_off e1]
          by_cases e2 : i = nd - (j + 1)
          · rw [e2, upd_at, upd_at]
          · rw [upd_off e2, upd_off e2]
            exact h i hi
    · rw [if_neg hc, if_neg hc]
      exact pqR_cg hnd j S (by omega) hS h k hk
/-- a way that pays more is kept -/
def impB : Option Nat → Nat → Bool
  | none, _ => true
  | some b, v => decide (b < v)
def upS (v : Nat) (R : Nat → Int32) (st : Option Nat × (Nat → Int32)) : Option Nat × (Nat → Int32) := if impB st.1 v = true then (some v, R) else st
theorem upS_2 {v v2 : Nat} {R R2 : Nat → Int32} {st : Option Nat × (Nat → Int32)} : upS v2 R2 (upS v R st) = if v < v2 then upS v2 R2 st else upS v R st := by
  obtain ⟨o, w⟩ := st
  cases o with
  | none =>
    have e1 : upS v R (none, w) = (some v, R) := rfl
    have e2 : upS v2 R2 (none, w) = (some v2, R2) := rfl
    rw [e1, e2]
    unfold upS impB
    by_cases h : v < v2
    · rw [if_pos h, if_pos (decide_eq_true h)]
    · rw [if_neg h, if_neg (by rw [decide_eq_true_iff]; exact h)]
  | some b =>
    have e : ∀ v R, upS v R (some b, w) = if b < v then (some v, R) else (some b, w) := by
      intro v R
      unfold upS impB
      by_cases h : b < v
      · rw [if_pos h, if_pos (decide_eq_true h)]
      · rw [if_neg h, if_neg (by rw [decide_eq_true_iff]; exact h)]
    rw [e, e]
    by_cases h : b < v
    · rw [if_pos h]
      have e3 : upS v2 R2 (some v, R) = if v < v2 then (some v2, R2) else (some v, R) := by
        unfold upS impB
        by_cases h : v < v2
        · rw [if_pos h, if_pos (decide_eq_true h)]
        · rw [if_neg h, if_neg (by rw [decide_eq_true_iff]; exact h)]
      rw [e3]
      by_cases h2 : v < v2
      · rw [if_pos h2, if_pos h2, if_pos (by omega)]
      · rw [if_neg h2, if_neg h2]
    · rw [if_neg h, e]
      by_cases h2 : v < v2
      · rw [if_pos h2]
      · rw [if_neg h2, if_neg (by omega)]
theorem upS_le {v b : Nat} {R : Nat → Int32} {st : Option Nat × (Nat → Int32)} (hv : v ≤ b) (h : ∀ x, st.1 = some x → x ≤ b) : ∀ x, (upS v R st).1 = some x → x ≤ b := by
  intro x hx
  unfold upS at hx
  split at hx
  · cases hx; exact hv
  · exact h x hx
/-- what two contracts pay together, if they have a grain in common -/
def paN (m : Nat → Int32) (k : Nat) : Nat := (m (93 + 5 * k + 3)).toNatClampNeg
def boN (m : Nat → Int32) (nd k o : Nat) : Option Nat := if k < nd ∧ o < nd ∧ dLo m k ≤ dHi m o ∧ dLo m o ≤ dHi m k then some (paN m k + paN m o) else none
theorem paN_ok {m : Nat → Int32} {n nc ns nd k : Nat} (hB : BD m n nc ns nd) (hk : k < nd) : m (93 + 5 * k + 3) = nI (paN m k) ∧ paN m k ≤ 9 := by
  obtain ⟨lo, hi, q, p, c1, c2, c3, c4, c5, c6, c7, c8, c9, c10, c11⟩ := hB.2.2.2.2.2.2.2.1 k hk
  have e : paN m k = p := by unfold paN; rw [c10, nI_clamp (by omega)]
  rw [e]
  exact ⟨c10, c6⟩
theorem boN_le {m : Nat → Int32} {n nc ns nd : Nat} (hB : BD m n nc ns nd) : ∀ c o p, boN m nd c o = some p → p ≤ 18 := by
  intro c o p h
  unfold boN at h
  split at h
  · rename_i hc
    have a := (paN_ok hB hc.1).2
    have b := (paN_ok hB hc.2.1).2
    cases h
    omega
  · cases h
def sPa (m : Nat → Int32) (nd : Nat) : Option Nat → Int32
  | none => nI (pqV nd (boN m nd) nd (opN m nd))
  | some k => pqR nd (boN m nd) nd (opN m nd) (fun _ => -(nI 1)) k
