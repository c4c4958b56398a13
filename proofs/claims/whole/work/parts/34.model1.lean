/-! THE MODEL: what it says of its row -/
def sIn (v lo hi : Int32) : Prop := lo ≤ v ∧ v ≤ hi
section CM1
variable {d : Nat} {σ : mSg} {sh : List mSh} {Q : mPst}
theorem g_isIn {v lo hi : Int32} (q1 : sIn v lo hi → Q (.inl (some (.int (nI 1)))) sh σ) (q0 : ¬ sIn v lo hi → Q (.inl (some (.int (nI 0)))) sh σ) : mD (d + 1) 79 [.int v, .int lo, .int hi] sh σ Q := by
  refine ⟨rfl, fun X hX => ?_⟩
  refine hX _ _ _ _ _ _ _ ?_
  refine ⟨fun h => ?_, fun h => ⟨fun h2 => ?_, fun h2 => ?_⟩⟩
  · refine hX _ _ _ _ _ _ _ ?_
    refine hX _ _ _ _ _ _ _ ?_
    exact ⟨Or.inl rfl, q0 (fun z => Int32.not_le.mpr h z.1)⟩
  · refine hX _ _ _ _ _ _ _ ?_
    refine hX _ _ _ _ _ _ _ ?_
    exact ⟨Or.inl rfl, q0 (fun z => Int32.not_le.mpr h2 z.2)⟩
  · refine hX _ _ _ _ _ _ _ ?_
    exact ⟨Or.inr rfl, q1 ⟨Int32.not_lt.mp h, Int32.not_lt.mp h2⟩⟩
theorem g_lesser {a b : Int32} (hq : Q (.inl (some (.int (sMin a b)))) sh σ) : mD (d + 1) 80 [.int a, .int b] sh σ Q := by
  refine ⟨rfl, fun X hX => ?_⟩
  refine hX _ _ _ _ _ _ _ ?_
  unfold sMin at hq
  refine ⟨fun h => ?_, fun h => ?_⟩
  · refine hX _ _ _ _ _ _ _ ?_
    refine hX _ _ _ _ _ _ _ ?_
    have h : b ≤ a := h
    rw [if_neg (Int32.not_lt.mpr h)] at hq
    exact hq
  · refine hX _ _ _ _ _ _ _ ?_
    have h : ¬ b ≤ a := h
    rw [if_pos (Int32.not_le.mp h)] at hq
    exact hq
def sMax (a b : Int32) : Int32 := if b < a then a else b
theorem g_greater {a b : Int32} (hq : Q (.inl (some (.int (sMax a b)))) sh σ) : mD (d + 1) 81 [.int a, .int b] sh σ Q := by
  refine ⟨rfl, fun X hX => ?_⟩
  refine hX _ _ _ _ _ _ _ ?_
  unfold sMax at hq
  refine ⟨fun h => ?_, fun h => ?_⟩
  · refine hX _ _ _ _ _ _ _ ?_
    refine hX _ _ _ _ _ _ _ ?_
    have h : a ≤ b := h
    rw [if_neg (Int32.not_lt.mpr h)] at hq
    exact hq
  · refine hX _ _ _ _ _ _ _ ?_
    have h : ¬ a ≤ b := h
    rw [if_pos (Int32.not_le.mp h)] at hq
    exact hq
theorem g_isOf {set k : Int32} (q1 : sIs set k = nI 1 → Q (.inl (some (.int (nI 1)))) sh σ) (q0 : ¬ sIs set k = nI 1 → Q (.inl (some (.int (nI 0)))) sh σ) : mD (d + 1) 82 [.int set, .int k] sh σ Q := by
  refine ⟨rfl, fun X hX => ?_⟩
  refine hX _ _ _ _ _ _ _ ?_
  refine ⟨fun h => ?_, fun h => ?_⟩
  · refine hX _ _ _ _ _ _ _ ?_
    refine hX _ _ _ _ _ _ _ ?_
    exact ⟨Or.inl rfl, q0 h⟩
  · refine hX _ _ _ _ _ _ _ ?_
    exact ⟨Or.inr rfl, q1 h⟩
theorem g_of {s w : Nat} (hs : s < 7) (hw : w < 9) (hq : Q (.inl (some (.int (σ 1 (20 + 9 * s + w))))) sh_10 σ) : mD (d + 1) 84 [.ref 0, .int (nI s), .int (nI w)] sh_10 σ Q := by
  have e : nI 20 + nI 9 * nI s + nI w = nI (20 + 9 * s + w) := by rw [nI_mul, nI_add, nI_add]
  refine ⟨rfl, fun X hX => ?_⟩
  refine hX _ _ _ _ _ _ _ ?_
  refine ⟨vin e (by omega) (by omega), ?_⟩
  rw [← clN e (by omega)] at hq
  exact hq
theorem g_mixOf {s g : Nat} (hs : s < 7) (h1 : 1 ≤ g) (h2 : g < 7) (hq : Q (.inl (some (.int (σ 1 (22 + 9 * s + g))))) sh_10 σ) : mD (d + 1) 85 [.ref 0, .int (nI s), .int (nI g)] sh_10 σ Q := by
  have e : nI 20 + nI 9 * nI s + nI 3 + nI g - nI 1 = nI (22 + 9 * s + g) := by rw [nI_mul, nI_add, nI_add, nI_add, nI_sub (by omega)]; congr 1; omega
  refine ⟨rfl, fun X hX => ?_⟩
  refine hX _ _ _ _ _ _ _ ?_
  refine ⟨vin e (by omega) (by omega), ?_⟩
  rw [← clN e (by omega)] at hq
  exact hq
theorem g_ofDeal {k w : Nat} (hk : k < 6) (hw : w < 5) (hq : Q (.inl (some (.int (σ 1 (93 + 5 * k + w))))) sh_10 σ) : mD (d + 1) 86 [.ref 0, .int (nI k), .int (nI w)] sh_10 σ Q := by
  have e : nI 93 + nI 5 * nI k + nI w = nI (93 + 5 * k + w) := by rw [nI_mul, nI_add, nI_add]
  refine ⟨rfl, fun X hX => ?_⟩
  refine hX _ _ _ _ _ _ _ ?_
  refine ⟨vin e (by omega) (by omega), ?_⟩
  rw [← clN e (by omega)] at hq
  exact hq
theorem g_hold {c : Nat} (hc : c < 3) (hq : Q (.inl (some (.int (σ 1 (83 + 2 * c))))) sh_10 σ) : mD (d + 1) 87 [.ref 0, .int (nI c)] sh_10 σ Q := by
  have e : nI 83 + nI 2 * nI c = nI (83 + 2 * c) := by rw [nI_mul, nI_add]
  refine ⟨rfl, fun X hX => ?_⟩
  refine hX _ _ _ _ _ _ _ ?_
  refine ⟨vin e (by omega) (by omega), ?_⟩
  rw [← clN e (by omega)] at hq
  exact hq
theorem g_goesFar {c : Nat} (hc : c < 3) (hq : Q (.inl (some (.int (σ 1 (84 + 2 * c))))) sh_10 σ) : mD (d + 1) 88 [.ref 0, .int (nI c)] sh_10 σ Q := by
  have e : nI 83 + nI 2 * nI c + nI 1 = nI (84 + 2 * c) := by rw [nI_mul, nI_add, nI_add]; congr 1; omega
  refine ⟨rfl, fun X hX => ?_⟩
  refine hX _ _ _ _ _ _ _ ?_
  refine ⟨vin e (by omega) (by omega), ?_⟩
  rw [← clN e (by omega)] at hq
  exact hq
theorem g_heaped {g : Nat} (h1 : 1 ≤ g) (h2 : g < 7) (hq : Q (.inl (some (.int (σ 1 (13 + g))))) sh_10 σ) : mD (d + 1) 89 [.ref 0, .int (nI g)] sh_10 σ Q := by
  have e : nI 14 + nI g - nI 1 = nI (13 + g) := by rw [nI_add, nI_sub (by omega)]; congr 1; omega
  refine ⟨rfl, fun X hX => ?_⟩
  refine hX _ _ _ _ _ _ _ ?_
  refine ⟨vin e (by omega) (by omega), ?_⟩
  rw [← clN e (by omega)] at hq
  exact hq
end CM1
