/-! THE CLASS: the log -/
/-- a row goes into the log: five numbers, all others one row on -/
def sLog (m : Nat → Int32) (a b c e f : Int32) : Nat → Int32 := fun i =>
  if i = 12 then (if nI 60 < m 12 + nI 1 then nI 60 else m 12 + nI 1)
  else if 128 ≤ i ∧ i < 423 then m (i - 5)
  else if i = 123 then a else if i = 124 then b else if i = 125 then c else if i = 126 then e else if i = 127 then f else m i
/-- the log by itself -/
def RLg (σ : mSg) (m : Nat → Int32) : Prop := σ 0 1 = m 12 ∧ ∃ nx, nx < 60 ∧ σ 0 2 = nI nx ∧ ∀ a w, a < 60 → w < 5 → σ 1 (5 * ((nx + 59 - a) % 60) + w) = m (123 + 5 * a + w)
theorem nI_sa {a b c : Nat} (h : b ≤ a + c) : nI a - nI b + nI c = nI (a + c - b) := by
  rw [Int32.sub_eq_add_neg, Int32.add_assoc, Int32.add_comm (-nI b), ← Int32.add_assoc, ← Int32.sub_eq_add_neg, nI_add, nI_sub h]
theorem nI_mn {a b : Nat} (h : a ≤ b) : nI a - nI b = -(nI (b - a)) := by
  have e : nI b = nI (b - a) + nI a := by rw [nI_add, Nat.sub_add_cancel h]
  rw [e, Int32.add_comm, Int32.sub_eq_add_neg, Int32.neg_add, Int32.sub_eq_add_neg, ← Int32.add_assoc, Int32.add_right_neg, Int32.zero_add]
theorem nI_ng : ∀ k, k < 100 → 0 < k → ¬ (0 : Int32) ≤ -(nI k) := by decide +kernel
section CLG
variable {d : Nat} {σ : mSg} {m : Nat → Int32} {Q : mPst}
theorem sLog_row {a b c e f : Int32} (k w : Nat) (hk : k < 59) (hw : w < 5) : sLog m a b c e f (123 + 5 * (k + 1) + w) = m (123 + 5 * k + w) := by
  unfold sLog
  rw [if_neg (by omega), if_pos (by omega)]
  congr 1
  omega
set_option maxHeartbeats 4000000 in
theorem c_logAdd {a b c e f : Int32} (hR : RLg σ m) (hq : ∀ σ', RLg σ' (sLog m a b c e f) → Q (.inl none) sh_3 σ') : mD (d + 1) 265 [.ref 0, .int a, .int b, .int c, .int e, .int f] sh_3 σ Q := by
  obtain ⟨h1, nx, h2, h3, h4⟩ := hR
  have e5 : nI nx * nI 5 = nI (5 * nx) := by rw [nI_mul, Nat.mul_comm]
  have i0 : vp_in (σ 0 2 * nI 5) 300 := by rw [h3]; exact vin e5 (by omega) (by omega)
  have i1 : ∀ j, j < 5 → vp_in (σ 0 2 * nI 5 + nI j) 300 := fun j hj => by rw [h3, e5, nI_add]; exact vp_in_nI (by omega) (by omega)
  have c0 : (σ 0 2 * nI 5).toNatClampNeg = 5 * nx := by rw [h3]; exact clN e5 (by omega)
  have c1 : ∀ j, j < 5 → (σ 0 2 * nI 5 + nI j).toNatClampNeg = 5 * nx + j := fun j hj => by rw [h3, e5, nI_add]; exact nI_clamp (by omega)
  have key : ∀ nx' : Nat, nx' < 60 → nx' = (nx + 1) % 60 → ∀ σ', σ' = mput (mput (mput (mput (mput (mput (mput σ 1 (5 * nx) a) 1 (5 * nx + 1) b) 1 (5 * nx + 2) c) 1 (5 * nx + 3) e) 1 (5 * nx + 4) f) 0 2 (nI nx')) 0 1 (if nI 60 < m 12 + nI 1 then nI 60 else m 12 + nI 1) → RLg σ' (sLog m a b c e f) := by
    intro nx' hx hx2 σ' hσ
    subst hσ
    refine ⟨?_, nx', hx, ?_, fun k w hk hw => ?_⟩
    · rw [mput_eq, upd_at]; unfold sLog; rw [if_pos rfl]
    · rw [mput_eq, upd_off (by omega), mput_eq, upd_at]
    · rw [mput_ne (by omega), mput_ne (by omega), mput_eq, mput_eq, mput_eq, mput_eq, mput_eq]
      cases k with
      | zero =>
        have e9 : (nx' + 59 - 0) % 60 = nx := by omega
        rw [e9]
        have hw5 : w = 0 ∨ w = 1 ∨ w = 2 ∨ w = 3 ∨ w = 4 := by omega
        rcases hw5 with rfl | rfl | rfl | rfl | rfl
        · rw [upd_off (by omega), upd_off (by omega), upd_off (by omega), upd_off (by omega)]
          show upd (σ 1) (5 * nx) a (5 * nx) = a
          exact upd_at
        · rw [upd_off (by omega), upd_off (by omega), upd_off (by omega), upd_at]; rfl
        · rw [upd_off (by omega), upd_off (by omega), upd_at]; rfl
        · rw [upd_off (by omega), upd_at]; rfl
        · rw [upd_at]; rfl
      | succ k =>
        have e9 : (nx' + 59 - (k + 1)) % 60 = (nx + 59 - k) % 60 := by omega
        have e8 : (nx + 59 - k) % 60 ≠ nx := by omega
        rw [e9, sLog_row k w (by omega) hw, ← h4 k w (by omega) hw]
        rw [upd_off (by omega), upd_off (by omega), upd_off (by omega), upd_off (by omega), upd_off (by omega)]
  refine ⟨rfl, fun X hX => ?_⟩
  refine hX _ _ _ _ _ _ _ ?_
  refine ⟨i0, i1 1 (by omega), i1 2 (by omega), i1 3 (by omega), i1 4 (by omega), ?_⟩
  refine ⟨fun h => ?_, fun h => ?_⟩
  · have h : nI 60 ≤ σ 0 2 + nI 1 := h
    rw [h3, nI_add, nI_leI (by omega) (by omega)] at h
    refine hX _ _ _ _ _ _ _ ?_
    refine hX _ _ _ _ _ _ _ ?_
    refine hq _ (key 0 (by omega) (by omega) _ ?_)
    rw [← c1 4 (by omega), ← c1 3 (by omega), ← c1 2 (by omega), ← c1 1 (by omega), ← c0, ← h1]
    rfl
  · have h : ¬ nI 60 ≤ σ 0 2 + nI 1 := h
    rw [h3, nI_add, nI_leI (by omega) (by omega)] at h
    refine hX _ _ _ _ _ _ _ ?_
    refine hq _ (key (nx + 1) (by omega) (by omega) _ ?_)
    rw [← c1 4 (by omega), ← c1 3 (by omega), ← c1 2 (by omega), ← c1 1 (by omega), ← c0, ← h1, show nI (nx + 1) = σ 0 2 + nI 1 by rw [h3, nI_add]]
    rfl
/-- a number of the log, by how long ago -/
theorem c_logCell {ago : Int32} {w ls : Nat} (hw : w < 5) (hl : m 12 = nI ls) (hls : ls ≤ 60) (hR : RLg σ m) (q1 : ∀ k, k < ls → ago = nI k → Q (.inl (some (.int (m (123 + 5 * k + w))))) sh_3 σ) (q0 : (¬ ∃ k, k < ls ∧ ago = nI k) → Q (.inl (some (.int (-(nI 2))))) sh_3 σ) : mD (d + 1) 266 [.ref 0, .int ago, .int (nI w)] sh_3 σ Q := by
  obtain ⟨h1, nx, h2, h3, h4⟩ := hR
  have e1 : σ 0 1 = nI ls := h1.trans hl
  refine ⟨rfl, fun X hX => ?_⟩
  have out : (¬ ∃ k, k < ls ∧ ago = nI k) → X 12 [none, none, none, none] [] sh_3 σ 0 0 := by
    intro h
    refine hX _ _ _ _ _ _ _ ?_
    exact q0 h
  refine hX _ _ _ _ _ _ _ ?_
  refine ⟨fun h => ?_, fun h => ?_⟩
  · refine out ?_
    rintro ⟨k, hk, rfl⟩
    exact nI_pos (by omega) h
  · refine ⟨fun h5 => ?_, fun h5 => ?_⟩
    · have h5 : ago < σ 0 1 := h5
      obtain ⟨k, hk, rfl⟩ := nI_of (show ¬ ago < 0 from h)
      rw [e1, nI_ltI hk (by omega)] at h5
      refine hX _ _ _ _ _ _ _ ?_
      have hq := q1 k h5 rfl
      rw [← h4 k w (by omega) hw] at hq
      by_cases hc : k < nx
      · have er : σ 0 2 - nI 1 - nI k = nI (nx - 1 - k) := by rw [h3, nI_sub (by omega), nI_sub (by omega)]
        have e9 : (nx + 59 - k) % 60 = nx - 1 - k := by omega
        rw [e9] at hq
        refine ⟨fun h6 => ?_, fun h6 => ?_⟩
        · refine hX _ _ _ _ _ _ _ ?_
          refine hX _ _ _ _ _ _ _ ?_
          have e7 : (σ 0 2 - nI 1 - nI k) * nI 5 + nI w = nI (5 * (nx - 1 - k) + w) := by rw [er, nI_mul, nI_add, Nat.mul_comm]
          refine ⟨vin e7 (by omega) (by omega), ?_⟩
          refine qi ?_ hq
          rw [← clN e7 (by omega)]; rfl
        · have h6 : ¬ (0 : Int32) ≤ σ 0 2 - nI 1 - nI k := h6
          rw [er] at h6
          exact absurd (nI_pos' (by omega)) h6
      · have er : σ 0 2 - nI 1 - nI k = nI nx - nI (k + 1) := by rw [h3, ← nI_add k 1, Int32.sub_sub, Int32.add_comm (nI 1)]
        have e9 : (nx + 59 - k) % 60 = nx + 59 - k := by omega
        rw [e9] at hq
        have e8 : (nI nx - nI (k + 1)) + nI 60 = nI (nx + 59 - k) := by rw [nI_sa (by omega)]; congr 1; omega
        refine ⟨fun h6 => ?_, fun h6 => ?_⟩
        · have h6 : (0 : Int32) ≤ σ 0 2 - nI 1 - nI k := h6
          rw [er, nI_mn (by omega)] at h6
          exact absurd h6 (nI_ng _ (by omega) (by omega))
        · refine hX _ _ _ _ _ _ _ ?_
          have e7 : (σ 0 2 - nI 1 - nI k + nI 60) * nI 5 + nI w = nI (5 * (nx + 59 - k) + w) := by rw [er, e8, nI_mul, nI_add, Nat.mul_comm]
          refine ⟨vin e7 (by omega) (by omega), ?_⟩
          refine qi ?_ hq
          rw [← clN e7 (by omega)]; rfl
    · refine hX _ _ _ _ _ _ _ ?_
      refine q0 ?_
      rintro ⟨k, hk, rfl⟩
      have h5 : ¬ nI k < σ 0 1 := h5
      rw [e1] at h5
      exact h5 (nI_lt hk (by omega))
end CLG
