/-! TEXTS: runs of signs, things, words, numbers -/
def rn (P : Int32 → Bool) (t : Nat → Int32) (n : Nat) : Nat → Nat → Nat
  | 0, p => p
  | f + 1, p => if p < n ∧ P (t p) = true then rn P t n f (p + 1) else p
def run (P : Int32 → Bool) (t : Nat → Int32) (n p : Nat) : Nat := rn P t n (n - p) p
section RUN
variable {P : Int32 → Bool} {t : Nat → Int32} {n p q : Nat}
theorem run_stop (h : ¬ (p < n ∧ P (t p) = true)) : run P t n p = p := by
  unfold run
  cases n - p with
  | zero => rfl
  | succ f => rw [rn, if_neg h]
theorem run_step (h : p < n) (h2 : P (t p) = true) : run P t n p = run P t n (p + 1) := by
  unfold run
  rw [show n - p = (n - (p + 1)) + 1 by omega, rn, if_pos ⟨h, h2⟩]
theorem run_spec : ∀ f p, n - p = f → p ≤ run P t n p ∧ (p ≤ n → run P t n p ≤ n) ∧ (∀ q, p ≤ q → q < run P t n p → q < n ∧ P (t q) = true) ∧ ¬ (run P t n p < n ∧ P (t (run P t n p)) = true) := by
  intro f
  induction f with
  | zero =>
    intro p hf
    rw [run_stop (by omega)]
    exact ⟨Nat.le_refl _, fun h => h, fun q h1 h2 => by omega, fun h => by omega⟩
  | succ f ih =>
    intro p hf
    by_cases h : p < n ∧ P (t p) = true
    · rw [run_step h.1 h.2]
      obtain ⟨i1, i2, i3, i4⟩ := ih (p + 1) (by omega)
      refine ⟨by omega, fun _ => i2 (by omega), fun q h1 h2 => ?_, i4⟩
      by_cases e : q = p
      · rw [e]; exact h
      · exact i3 q (by omega) h2
    · rw [run_stop h]
      exact ⟨Nat.le_refl _, fun h => h, fun q h1 h2 => by omega, h⟩
theorem run_ge : p ≤ run P t n p := (run_spec _ p rfl).1
theorem run_le (h : p ≤ n) : run P t n p ≤ n := (run_spec _ p rfl).2.1 h
theorem run_all (h1 : p ≤ q) (h2 : q < run P t n p) : q < n ∧ P (t q) = true := (run_spec _ p rfl).2.2.1 q h1 h2
theorem run_end : ¬ (run P t n p < n ∧ P (t (run P t n p)) = true) := (run_spec _ p rfl).2.2.2
theorem run_idem : run P t n (run P t n p) = run P t n p := run_stop run_end
theorem run_eq : ∀ f p, q - p = f → p ≤ q → (∀ r, p ≤ r → r < q → r < n ∧ P (t r) = true) → ¬ (q < n ∧ P (t q) = true) → run P t n p = q := by
  intro f
  induction f with
  | zero =>
    intro p hf hp h1 h2
    have e : p = q := by omega
    subst e
    exact run_stop h2
  | succ f ih =>
    intro p hf hp h1 h2
    have h3 := h1 p (Nat.le_refl _) (by omega)
    rw [run_step h3.1 h3.2]
    exact ih (p + 1) (by omega) (by omega) (fun r a b => h1 r (by omega) b) h2
end RUN
def kB (c : Int32) : Bool := decide (c = nI 32)
def kL (c : Int32) : Bool := decide (nI 97 ≤ c ∧ c ≤ nI 122)
def kD (c : Int32) : Bool := decide (nI 48 ≤ c ∧ c ≤ nI 57)
theorem kB_iff {c : Int32} : kB c = true ↔ c = nI 32 := decide_eq_true_iff
theorem kL_iff {c : Int32} : kL c = true ↔ (nI 97 ≤ c ∧ c ≤ nI 122) := decide_eq_true_iff
theorem kD_iff {c : Int32} : kD c = true ↔ (nI 48 ≤ c ∧ c ≤ nI 57) := decide_eq_true_iff
theorem le_cut {a b c d : Int32} (h1 : a ≤ c) (h2 : c ≤ b) (h3 : b < d) (h4 : d ≤ c) : False := by
  have := Int32.le_iff_toInt_le.mp h1
  have := Int32.le_iff_toInt_le.mp h2
  have := Int32.lt_iff_toInt_lt.mp h3
  have := Int32.le_iff_toInt_le.mp h4
  omega
theorem kL_D {c : Int32} (h : kL c = true) : ¬ kD c = true := fun h2 => le_cut (kD_iff.mp h2).1 (kD_iff.mp h2).2 (show nI 57 < nI 97 by decide +kernel) (kL_iff.mp h).1
theorem kL_B {c : Int32} (h : kL c = true) : ¬ kB c = true := by
  intro h2
  rw [kB_iff.mp h2] at h
  revert h; decide +kernel
theorem kD_B {c : Int32} (h : kD c = true) : ¬ kB c = true := by
  intro h2
  rw [kB_iff.mp h2] at h
  revert h; decide +kernel
section TXT
variable (t : Nat → Int32) (n : Nat)
/-- where the next thing begins -/
def sk (p : Nat) : Nat := run kB t n p
/-- where the thing that begins there ends -/
def te (b : Nat) : Nat := if b < n then (if kL (t b) = true then run kL t n b else if kD (t b) = true then run kD t n b else b + 1) else b
def nx (b : Nat) : Nat := sk t n (te t n b)
def eqs : Nat → List Nat → Bool
  | _, [] => true
  | b, c :: cs => decide (t b = nI c) && eqs (b + 1) cs
/-- a word stands there -/
def wB (b : Nat) (w : List Nat) : Bool := decide (run kL t n b = b + w.length) && eqs t b w
def sgB (b c : Nat) : Bool := decide (b < n) && decide (t b = nI c)
/-- what figures say -/
def dvI (b : Nat) : Nat → Int32
  | 0 => nI 0
  | k + 1 => nI 10 * dvI b k + t (b + k) - nI 48
def nV (b : Nat) : Int32 := dvI t b (run kD t n b - b)
def nB (b : Nat) (lo hi : Int32) : Bool := decide (b < run kD t n b) && (decide (run kD t n b ≤ b + 3) && (decide (lo ≤ nV t n b) && decide (nV t n b ≤ hi)))
end TXT
section TX2
variable {t : Nat → Int32} {n b c p : Nat} {w : List Nat} {lo hi : Int32}
theorem sk_ge : p ≤ sk t n p := run_ge
theorem sk_le (h : p ≤ n) : sk t n p ≤ n := run_le h
theorem sk_idem : sk t n (sk t n p) = sk t n p := run_idem
theorem sk_nb (h : sk t n p < n) : ¬ kB (t (sk t n p)) = true := fun h2 => run_end ⟨h, h2⟩
theorem te_le (h : b ≤ n) : te t n b ≤ n := by
  unfold te
  split
  · split
    · exact run_le h
    · split
      · exact run_le h
      · omega
  · exact h
theorem te_gt (h : b < n) : b < te t n b := by
  unfold te
  rw [if_pos h]
  split
  · rename_i h2; rw [run_step h h2]; exact run_ge
  · split
    · rename_i h2; rw [run_step h h2]; exact run_ge
    · omega
theorem nx_le (h : b ≤ n) : nx t n b ≤ n := sk_le (te_le h)
theorem nx_gt (h : b < n) : b < nx t n b := Nat.lt_of_lt_of_le (te_gt h) sk_ge
theorem nx_sk : sk t n (nx t n b) = nx t n b := sk_idem
theorem eqs_at : ∀ (w : List Nat) (b : Nat), eqs t b w = true ↔ ∀ i, i < w.length → t (b + i) = nI (w.getD i 0)
  | [], b => by simp [eqs]
  | c :: cs, b => by
    rw [eqs, Bool.and_eq_true, decide_eq_true_eq, eqs_at cs (b + 1)]
    constructor
    · rintro ⟨h1, h2⟩ i hi
      cases i with
      | zero => exact h1
      | succ i =>
        have := h2 i (by simp at hi; omega)
        rw [show b + (i + 1) = b + 1 + i by omega]
        exact this
    · intro h
      refine ⟨h 0 (by simp), fun i hi => ?_⟩
      have := h (i + 1) (by simp; omega)
      rw [show b + 1 + i = b + (i + 1) by omega]
      exact this
theorem wB_iff : wB t n b w = true ↔ run kL t n b = b + w.length ∧ ∀ i, i < w.length → t (b + i) = nI (w.getD i 0) := by
  unfold wB
  rw [Bool.and_eq_true, decide_eq_true_eq, eqs_at]
theorem sgB_iff : sgB t n b c = true ↔ b < n ∧ t b = nI c := by
  unfold sgB
  rw [Bool.and_eq_true, decide_eq_true_eq, decide_eq_true_eq]
theorem nB_iff : nB t n b lo hi = true ↔ b < run kD t n b ∧ run kD t n b ≤ b + 3 ∧ lo ≤ nV t n b ∧ nV t n b ≤ hi := by
  unfold nB
  rw [Bool.and_eq_true, Bool.and_eq_true, Bool.and_eq_true, decide_eq_true_eq, decide_eq_true_eq, decide_eq_true_eq, decide_eq_true_eq]
theorem wB_lt (h : wB t n b w = true) (hw : 0 < w.length) : b < n ∧ kL (t b) = true := by
  have h1 := (wB_iff.mp h).1
  exact run_all (q := b) (Nat.le_refl _) (by omega)
/-- behind a word -/
theorem wB_te (h : wB t n b w = true) (hw : 0 < w.length) : te t n b = b + w.length := by
  obtain ⟨h1, h2⟩ := wB_lt h hw
  unfold te
  rw [if_pos h1, if_pos h2, (wB_iff.mp h).1]
theorem nB_lt (h : nB t n b lo hi = true) : b < n ∧ kD (t b) = true := run_all (q := b) (Nat.le_refl _) (nB_iff.mp h).1
theorem nB_te (h : nB t n b lo hi = true) : te t n b = run kD t n b := by
  obtain ⟨h1, h2⟩ := nB_lt h
  unfold te
  rw [if_pos h1, if_neg (fun z => kL_D z h2), if_pos h2]
theorem sgB_te (h : sgB t n b c = true) (h1 : ¬ kL (nI c) = true) (h2 : ¬ kD (nI c) = true) : te t n b = b + 1 := by
  obtain ⟨h3, h4⟩ := sgB_iff.mp h
  unfold te
  rw [if_pos h3, h4, if_neg h1, if_neg h2]
/-- a number lies between -/
theorem nB_val {l h : Nat} (hb : nB t n b (nI l) (nI h) = true) (hh : h < 2 ^ 31) (hl : l < 2 ^ 31) : ∃ k, l ≤ k ∧ k ≤ h ∧ nV t n b = nI k := by
  obtain ⟨-, -, h1, h2⟩ := nB_iff.mp hb
  have h0 : ¬ nV t n b < 0 := by
    intro z
    have a1 := Int32.lt_iff_toInt_lt.mp z
    have a2 := Int32.le_iff_toInt_le.mp h1
    rw [nI_toInt hl] at a2
    have a3 : (0 : Int32).toInt = 0 := by decide +kernel
    omega
  obtain ⟨k, hk, e⟩ := nI_of h0
  rw [e, nI_leI hl hk] at h1
  rw [e, nI_leI hk hh] at h2
  exact ⟨k, h1, h2, e⟩
end TX2
