/-! THE CLASS: State, with loops -/
def sB (p : Prop) [Decidable p] : Int32 := if p then nI 1 else nI 0
def sBit (k : Int32) : Int32 := nI 1 <<< (k &&& 31)
def sIs (set k : Int32) : Int32 := (set >>> (k &&& 31)) &&& nI 1
/-- the heap from one grain, so many -/
def sHS (m : Nat → Int32) (lo : Nat) : Nat → Int32
  | 0 => nI 0
  | k + 1 => sHS m lo k + m (13 + lo + k)
def sWS (m : Nat → Int32) : Nat → Int32
  | 0 => nI 0
  | k + 1 => if nI 0 < m (22 + 9 * k) then sWS m k ||| sBit (nI k) else sWS m k
def sWO (m : Nat → Int32) (set : Int32) : Nat → Int32
  | 0 => nI 0
  | k + 1 => if sIs set (nI k) = 0 then sWO m set k else sWO m set k + m (22 + 9 * k)
def sCut (m : Nat → Int32) (set : Int32) : Nat → Int32
  | 0 => nI 0
  | k + 1 => if sIs set (nI k) = 0 then sCut m set k else sCut m set k ||| sBit (m (89 + k))
def sOpen (m : Nat → Int32) (k : Nat) : Prop := m (93 + 5 * k + 4) = nI 1
def sCan (m : Nat → Int32) (k lo hi : Nat) : Prop := sOpen m k ∧ m (93 + 5 * k + 2) ≤ sHS m lo (hi + 1 - lo)
theorem rf0 : rp 0 7 = some 3 ∧ rp 0 8 = some 4 ∧ rp 0 9 = some 5 ∧ rp 0 10 = some 6 ∧ rp 0 11 = some 0 ∧ rp 0 12 = some 7 ∧ rp 0 13 = some 8 ∧ rp 0 14 = some 9 ∧ rp 0 15 = some 10 ∧ rp 0 16 = some 11 ∧ rp 0 17 = some 13 ∧ rp 7 1 = some 12 := by decide +kernel
section CSL
variable {d : Nat} {σ : mSg} {m : Nat → Int32} {Q : mPst}
theorem c_isOpen {k : Nat} (hk : k < 6) (hR : RS σ m) (h1 : sOpen m k → Q (.inl (some (.int (nI 1)))) sh_7 σ) (h0 : ¬ sOpen m k → Q (.inl (some (.int (nI 0)))) sh_7 σ) : mD (d + 2) 324 [.ref 0, .int (nI k)] sh_7 σ Q := by
  refine ⟨rfl, fun X hX => ?_⟩
  refine hX _ _ _ _ _ _ _ ?_
  refine c_dealOf (w := 4) hk (by omega) hR ?_
  refine ⟨fun h => ?_, fun h => ?_⟩
  · refine hX _ _ _ _ _ _ _ ?_
    refine hX _ _ _ _ _ _ _ ?_
    exact ⟨Or.inl rfl, h0 h⟩
  · refine hX _ _ _ _ _ _ _ ?_
    exact ⟨Or.inr rfl, h1 h⟩
theorem c_close {k : Nat} (hk : k < 6) (hR : RS σ m) (hq : ∀ σ', RS σ' (upd m (93 + 5 * k + 4) (nI 0)) → Q (.inl none) sh_7 σ') : mD (d + 1) 325 [.ref 0, .int (nI k)] sh_7 σ Q := by
  have e : nI k * nI 5 + nI 4 = nI (5 * k + 4) := by rw [nI_mul, nI_add, Nat.mul_comm]
  refine ⟨rfl, fun X hX => ?_⟩
  refine hX _ _ _ _ _ _ _ ?_
  refine ⟨vin e (by omega) (by omega), ?_⟩
  refine hq _ ?_
  show RS (mput σ 5 (nI k * nI 5 + nI 4).toNatClampNeg (nI 0)) _
  rw [clN e (by omega)]
  exact hR.put (rqd k hk 4 (by omega)) (nI 0)
theorem c_draw (hR : RS σ m) (hq : ∀ σ', RS σ' (upd m 13 (nI 1103515245 * m 13 + nI 12345)) → Q (.inl (some (.int (((nI 1103515245 * m 13 + nI 12345) >>> (nI 16 &&& 31)) &&& nI 32767)))) sh_7 σ') : mD (d + 1) 328 [.ref 0] sh_7 σ Q := by
  refine ⟨rfl, fun X hX => ?_⟩
  refine hX _ _ _ _ _ _ _ ?_
  have e : σ 0 17 = m 13 := hR.get rf0.2.2.2.2.2.2.2.2.2.2.1
  have e2 : (mput σ 0 17 (nI 1103515245 * m 13 + nI 12345)) 0 17 = nI 1103515245 * m 13 + nI 12345 := by rw [mput_eq, upd_at]
  have h := hq (mput σ 0 17 (nI 1103515245 * m 13 + nI 12345)) (hR.put rf0.2.2.2.2.2.2.2.2.2.2.1 _)
  rw [← e2] at h
  rw [← e] at h
  exact h
theorem c_heapSum {lo hi : Nat} (h1 : 1 ≤ lo) (h2 : hi ≤ 6) (h3 : lo ≤ 6) (hR : RS σ m) (hq : Q (.inl (some (.int (sHS m lo (hi + 1 - lo))))) sh_7 σ) : mD (d + 1) 316 [.ref 0, .int (nI lo), .int (nI hi)] sh_7 σ Q := by
  have emax : (if nI 1 < nI lo then nI lo else nI 1) = nI lo := by
    by_cases h : 1 < lo
    · rw [if_pos (nI_lt h (by omega))]
    · have e : lo = 1 := by omega
      subst e; split <;> rfl
  have emin : (if nI 6 < nI hi then nI 6 else nI hi) = nI hi := if_neg (nI_nlt h2 (by omega))
  refine ⟨rfl, fun X hX => ?_⟩
  have loop : ∀ n k, hi + 1 - (lo + k) = n → lo + k ≤ 7 → (k ≤ hi + 1 - lo) → X 9 [some (.ref 0), none, some (.int (nI hi)), some (.int (sHS m lo k)), some (.int (nI (lo + k)))] [] sh_7 σ 0 0 := by
    intro n
    induction n with
    | zero =>
      intro k hn hk hk2
      refine hX _ _ _ _ _ _ _ ?_
      refine ⟨fun h => ?_, fun h => ?_⟩
      · refine hX _ _ _ _ _ _ _ ?_
        have e : k = hi + 1 - lo := by omega
        rw [← e] at hq
        exact hq
      · exfalso
        have h : ¬ (if nI 6 < nI hi then nI 6 else nI hi) < nI (lo + k) := h
        rw [emin] at h
        exact h (nI_lt (by omega) (by omega))
    | succ n ih =>
      intro k hn hk hk2
      refine hX _ _ _ _ _ _ _ ?_
      refine ⟨fun h => ?_, fun h => ?_⟩
      · exfalso
        have h : (if nI 6 < nI hi then nI 6 else nI hi) < nI (lo + k) := h
        rw [emin] at h
        exact nI_nlt (by omega) (by omega) h
      · refine ⟨vp_in_nI (by omega) (by omega), ?_⟩
        have e1 : σ 6 (nI (lo + k)).toNatClampNeg = m (13 + lo + k) := by rw [nI_clamp (by omega), Nat.add_assoc]; exact hR.get (rqh (lo + k) (by omega) (by omega))
        have h9 := ih (k + 1) (by omega) (by omega) (by omega)
        rw [sHS, ← e1, ← Nat.add_assoc, ← nI_1] at h9
        exact h9
  refine hX _ _ _ _ _ _ _ ?_
  have h9 := loop _ 0 rfl (by omega) (by omega)
  rw [Nat.add_zero, ← emax] at h9
  exact h9
theorem c_canSettle {k lo hi : Nat} (hk : k < 6) (hlo : m (93 + 5 * k) = nI lo) (hhi : m (93 + 5 * k + 1) = nI hi) (h1 : 1 ≤ lo) (h2 : hi ≤ 6) (h3 : lo ≤ 6) (hR : RS σ m) (q1 : sCan m k lo hi → Q (.inl (some (.int (nI 1)))) sh_7 σ) (q0 : ¬ sCan m k lo hi → Q (.inl (some (.int (nI 0)))) sh_7 σ) : mD (d + 3) 326 [.ref 0, .int (nI k)] sh_7 σ Q := by
  refine ⟨rfl, fun X hX => ?_⟩
  refine hX _ _ _ _ _ _ _ ?_
  refine c_isOpen hk hR (fun ho => ?_) (fun ho => ?_)
  · refine ⟨fun h => absurd h (by decide +kernel), fun _ => ?_⟩
    refine c_lowOf hk hR ?_
    refine c_highOf hk hR ?_
    show mD (d + 2) 316 [.ref 0, .int (m (93 + 5 * k)), .int (m (93 + 5 * k + 1))] sh_7 σ _
    rw [hlo, hhi]
    refine c_heapSum h1 h2 h3 hR ?_
    refine c_manyOf hk hR ?_
    refine ⟨fun h => ?_, fun h => ?_⟩
    · refine hX _ _ _ _ _ _ _ ?_
      refine hX _ _ _ _ _ _ _ ?_
      exact ⟨Or.inl rfl, q0 (fun z => Int32.not_le.mpr h z.2)⟩
    · refine hX _ _ _ _ _ _ _ ?_
      exact ⟨Or.inr rfl, q1 ⟨ho, Int32.not_lt.mp h⟩⟩
  · refine ⟨fun _ => ?_, fun h => absurd rfl h⟩
    refine hX _ _ _ _ _ _ _ ?_
    refine hX _ _ _ _ _ _ _ ?_
    exact ⟨Or.inl rfl, q0 (fun z => ho z.1)⟩
end CSL
