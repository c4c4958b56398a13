/-! CONTRACTS from the heap; THE CLASS -/
/-- a set as bits, as a number -/
def sN (P : Nat → Bool) : Nat → Nat
  | 0 => 0
  | k + 1 => if P k = true then sN P k ||| 2 ^ k else sN P k
theorem sN_lt {P : Nat → Bool} : ∀ k, sN P k < 2 ^ k
  | 0 => Nat.zero_lt_one
  | k + 1 => by
    have ih := sN_lt (P := P) k
    unfold sN
    have h2 : 2 ^ (k + 1) = 2 * 2 ^ k := by rw [Nat.pow_succ, Nat.mul_comm]
    split
    · exact Nat.or_lt_two_pow (by omega) (by omega)
    · omega
theorem sN_bit {P : Nat → Bool} {i : Nat} : ∀ k, (sN P k).testBit i = (decide (i < k) && P i)
  | 0 => by
    show Nat.testBit 0 i = _
    rw [Nat.zero_testBit, decide_eq_false (by omega), Bool.false_and]
  | k + 1 => by
    have ih := sN_bit (P := P) (i := i) k
    unfold sN
    by_cases h : P k = true
    · rw [if_pos h, Nat.testBit_or, ih, Nat.testBit_two_pow]
      by_cases e : k = i
      · subst e
        rw [decide_eq_true rfl, Bool.or_true, decide_eq_true (by omega), h]; rfl
      · rw [decide_eq_false e, Bool.or_false]
        by_cases hi : i < k
        · rw [decide_eq_true hi, decide_eq_true (by omega)]
        · rw [decide_eq_false hi, decide_eq_false (by omega)]
    · rw [if_neg h, ih]
      by_cases e : k = i
      · subst e
        rw [Bool.eq_false_iff.mpr h, Bool.and_false, Bool.and_false]
      · by_cases hi : i < k
        · rw [decide_eq_true hi, decide_eq_true (by omega)]
        · rw [decide_eq_false hi, decide_eq_false (by omega)]
theorem sSet_nI {P : Nat → Bool} : ∀ k, k ≤ 7 → sSet P k = nI (sN P k)
  | 0, _ => rfl
  | k + 1, h => by
    have ih := sSet_nI (P := P) k (by omega)
    have hl := sN_lt (P := P) k
    have h2 : 2 ^ k ≤ 2 ^ 7 := Nat.pow_le_pow_right (by omega) (by omega)
    unfold sSet sN
    rw [ih]
    split
    · exact bit_or _ (by omega) k (by omega)
    · rfl
def wnB (m : Nat → Int32) (S lo hi k : Nat) : Prop := (lo ≤ dLo m k ∧ dHi m k ≤ hi) ∧ S.testBit k = true
theorem wnB_dec {m : Nat → Int32} {S lo hi k : Nat} : wnB m S lo hi k ∨ ¬ wnB m S lo hi k := Classical.em _
noncomputable def sWn (m : Nat → Int32) (S lo hi : Nat) : Nat → Int32
  | 0 => nI 0
  | k + 1 => if (lo ≤ dLo m k ∧ dHi m k ≤ hi) ∧ S.testBit k = true then sWn m S lo hi k + m (93 + 5 * k + 2) else sWn m S lo hi k
/-- what contracts of a set pay -/
def sPy (m : Nat → Int32) (S : Nat) : Nat → Int32
  | 0 => nI 0
  | k + 1 => if S.testBit k = true then sPy m S k + m (93 + 5 * k + 2) * m (93 + 5 * k + 3) else sPy m S k
def pyN (m : Nat → Int32) (nd S : Nat) : Nat := (sPy m S nd).toNatClampNeg
theorem sPy_ok {m : Nat → Int32} {n nc ns nd S : Nat} (hB : BD m n nc ns nd) : ∀ k, k ≤ nd → ∃ w, w ≤ 891 * k ∧ sPy m S k = nI w
  | 0, _ => ⟨0, by omega, rfl⟩
  | k + 1, h => by
    obtain ⟨w, h1, h2⟩ := sPy_ok (S := S) hB k (by omega)
    obtain ⟨lo, hi, q, p, c1, c2, c3, c4, c5, c6, c7, c8, c9, c10, c11⟩ := hB.2.2.2.2.2.2.2.1 k (by omega)
    unfold sPy
    split
    · refine ⟨w + q * p, ?_, by rw [h2, c9, c10, nI_mul, nI_add]⟩
      have : q * p ≤ 99 * 9 := Nat.mul_le_mul c5 c6
      omega
    · exact ⟨w, by omega, h2⟩
theorem pyN_ok {m : Nat → Int32} {n nc ns nd S : Nat} (hB : BD m n nc ns nd) : sPy m S nd = nI (pyN m nd S) ∧ pyN m nd S ≤ 5346 := by
  obtain ⟨w, h1, h2⟩ := sPy_ok (S := S) hB nd (Nat.le_refl _)
  have hn := hB.2.2.2.1.2
  have e : pyN m nd S = w := clN h2 (by omega)
  rw [e]
  exact ⟨h2, by omega⟩
/-- the heap has enough for contracts of a set, so far -/
def enC (m : Nat → Int32) (nd S l j : Nat) : Prop := sWn m S (l + 1) (l + 1 + j) nd ≤ sHS m (l + 1) (j + 1)
def enP (m : Nat → Int32) (nd S L J : Nat) : Prop := ∀ l j, (l < L ∧ j < 6 - l) ∨ (l = L ∧ j < J) → enC m nd S l j
def opN (m : Nat → Int32) (nd : Nat) : Nat := sN (opB m) nd
def svd (m : Nat → Int32) (nd S : Nat) : Prop := S &&& opN m nd = S ∧ enP m nd S 6 0
theorem enP_s {m : Nat → Int32} {nd S L J : Nat} : enP m nd S L (J + 1) ↔ enP m nd S L J ∧ enC m nd S L J := by
  constructor
  · intro h
    exact ⟨fun l j hj => h l j (by omega), h L J (by omega)⟩
  · rintro ⟨h1, h2⟩ l j hj
    by_cases e : l = L ∧ j = J
    · rw [e.1, e.2]; exact h2
    · exact h1 l j (by omega)
theorem enP_n {m : Nat → Int32} {nd S L : Nat} : enP m nd S L (6 - L) ↔ enP m nd S (L + 1) 0 := by
  constructor
  · intro h l j hj
    exact h l j (by omega)
  · intro h l j hj
    exact h l j (by omega)
theorem enP_f {m : Nat → Int32} {nd S L J : Nat} (hL : L < 6) (hJ : J < 6 - L) (h : ¬ enC m nd S L J) : ¬ enP m nd S 6 0 := fun z => h (z L J (by omega))
def btr (m : Nat → Int32) (nd K b : Nat) : Prop := pyN m nd b < pyN m nd K ∨ (pyN m nd K = pyN m nd b ∧ pb K 7 < pb b 7)
section BES
variable {m : Nat → Int32} {nd : Nat}
noncomputable def sBe (m : Nat → Int32) (nd : Nat) : Nat → Nat
  | 0 => 0
  | K + 1 => @ite _ (btr m nd K (sBe m nd K) ∧ svd m nd K) (Classical.propDecidable _) K (sBe m nd K)
theorem sBe_p {K : Nat} (h : btr m nd K (sBe m nd K) ∧ svd m nd K) : sBe m nd (K + 1) = K := by
  unfold sBe
  exact if_pos h
theorem sBe_n {K : Nat} (h : ¬ (btr m nd K (sBe m nd K) ∧ svd m nd K)) : sBe m nd (K + 1) = sBe m nd K := by
  rw [sBe]
  exact if_neg h
theorem sBe_le : ∀ K, sBe m nd K ≤ K
  | 0 => Nat.le_refl _
  | K + 1 => by
    have ih := sBe_le K
    by_cases h : btr m nd K (sBe m nd K) ∧ svd m nd K
    · rw [sBe_p h]; omega
    · rw [sBe_n h]; omega
theorem sBe1 : sBe m nd 1 = 0 := by
  have h : ¬ (btr m nd 0 (sBe m nd 0) ∧ svd m nd 0) := by
    rintro ⟨h, -⟩
    have e : sBe m nd 0 = 0 := rfl
    rw [e] at h
    unfold btr at h
    omega
  rw [sBe_n h]; rfl
end BES
section CDE
variable {d : Nat} {σ : mSg} {m : Nat → Int32} {Q : mPst} {n nc ns nd : Nat}
theorem c_wantedWithin {S lo hi : Nat} (hS : S < 128) (hlo : lo < 7) (hhi : hi < 7) (hB : BD m n nc ns nd) (hR : RS σ m) (hq : Q (.inl (some (.int (sWn m S lo hi nd)))) sh_7 σ) : mD (d + 3) 235 [.ref 0, .int (nI S), .int (nI lo), .int (nI hi)] sh_7 σ Q := by
  have hn := hB.2.2.2.1.2
  have e6 : σ 0 10 = nI nd := (hR.get rf0.2.2.2.1).trans hB.2.2.2.1.1
  refine ⟨rfl, fun X hX => ?_⟩
  have loop : ∀ r k, nd - k = r → k ≤ nd → X 6 [some (.ref 0), some (.int (nI S)), some (.int (nI lo)), some (.int (nI hi)), some (.int (sWn m S lo hi k)), some (.int (nI k)), none] [] sh_7 σ 0 0 := by
    intro r
    induction r with
    | zero =>
      intro k hr hk
      have ek : k = nd := by omega
      subst ek
      refine hX _ _ _ _ _ _ _ ?_
      refine b_ge rfl e6 (by omega) (by omega) (fun _ => ?_) (fun h => by omega)
      refine hX _ _ _ _ _ _ _ ?_
      exact hq
    | succ r ih =>
      intro k hr hk
      have h9 := ih (k + 1) (by omega) (by omega)
      obtain ⟨d1, d2, d3, d4, d5⟩ := hB.dl (show k < nd by omega)
      have es := bit_sh S hS k (by omega)
      have no : ¬ ((lo ≤ dLo m k ∧ dHi m k ≤ hi) ∧ S.testBit k = true) → X 67 [some (.ref 0), some (.int (nI S)), some (.int (nI lo)), some (.int (nI hi)), some (.int (sWn m S lo hi k)), some (.int (nI k)), none] [] sh_7 σ 0 0 := by
        intro h
        refine hX _ _ _ _ _ _ _ ?_
        rw [sWn, if_neg h, ← nI_1 k] at h9
        exact h9
      have no2 : ¬ (lo ≤ dLo m k ∧ dHi m k ≤ hi) → X 39 [some (.ref 0), some (.int (nI S)), some (.int (nI lo)), some (.int (nI hi)), some (.int (sWn m S lo hi k)), some (.int (nI k)), none] [] sh_7 σ 0 0 := by
        intro h
        refine hX _ _ _ _ _ _ _ ?_
        refine hX _ _ _ _ _ _ _ ?_
        refine ⟨fun _ => no (fun z => h z.1), fun z => absurd rfl z⟩
      refine hX _ _ _ _ _ _ _ ?_
      refine b_ge rfl e6 (by omega) (by omega) (fun h => by omega) (fun _ => ?_)
      refine c_lowOf (by omega) hR ?_
      refine b_lt d1 rfl (by omega) (by omega) (fun h => no2 (fun z => by omega)) (fun h1 => ?_)
      refine c_highOf (by omega) hR ?_
      refine b_gt d2 rfl (by omega) (by omega) (fun h => no2 (fun z => by omega)) (fun h2 => ?_)
      refine hX _ _ _ _ _ _ _ ?_
      refine ⟨fun z => absurd z (by decide +kernel), fun _ => ?_⟩
      refine ⟨fun h => no (fun z => ?_), fun h => ?_⟩
      · have h : (nI S >>> (nI k &&& 31)) &&& nI 1 = 0 := h
        rw [es, if_pos z.2] at h
        exact absurd h (by decide +kernel)
      · have h : ¬ (nI S >>> (nI k &&& 31)) &&& nI 1 = 0 := h
        have hb : S.testBit k = true := by
          cases hb : S.testBit k with
          | true => rfl
          | false => rw [es, hb, if_neg (by decide)] at h; exact absurd rfl h
        refine c_manyOf (by omega) hR ?_
        refine hX _ _ _ _ _ _ _ ?_
        rw [sWn, if_pos ⟨⟨h1, h2⟩, hb⟩, ← nI_1 k] at h9
        exact h9
  refine hX _ _ _ _ _ _ _ ?_
  exact loop _ 0 rfl (Nat.zero_le _)
theorem c_isEnough {S : Nat} (hS : S < 128) (hB : BD m n nc ns nd) (hR : RS σ m) (q1 : enP m nd S 6 0 → Q (.inl (some (.int (nI 1)))) sh_7 σ) (q0 : ¬ enP m nd S 6 0 → Q (.inl (some (.int (nI 0)))) sh_7 σ) : mD (d + 4) 234 [.ref 0, .int (nI S)] sh_7 σ Q := by
  refine ⟨rfl, fun X hX => ?_⟩
  have loop : ∀ r L, 6 - L = r → L ≤ 6 → enP m nd S L 0 → X 2 [some (.ref 0), some (.int (nI S)), some (.int (nI (L + 1))), none, none] [] sh_7 σ 0 0 := by
    intro r
    induction r with
    | zero =>
      intro L hr hL hP
      have eL : L = 6 := by omega
      subst eL
      refine hX _ _ _ _ _ _ _ ?_
      refine b_gt rfl (b := 6) rfl (by omega) (by omega) (fun _ => ?_) (fun h => by omega)
      refine hX _ _ _ _ _ _ _ ?_
      exact ⟨Or.inr rfl, q1 hP⟩
    | succ r ih =>
      intro L hr hL hP
      have inner : ∀ s J, 6 - L - J = s → J ≤ 6 - L → enP m nd S L J → X 13 [some (.ref 0), some (.int (nI S)), some (.int (nI (L + 1))), some (.int (sHS m (L + 1) J)), some (.int (nI (L + 1 + J)))] [] sh_7 σ 0 0 := by
        intro s
        induction s with
        | zero =>
          intro J hs hJ hP
          have eJ : J = 6 - L := by omega
          subst eJ
          refine hX _ _ _ _ _ _ _ ?_
          refine b_gt rfl (b := 6) rfl (by omega) (by omega) (fun _ => ?_) (fun h => by omega)
          refine hX _ _ _ _ _ _ _ ?_
          have h9 := ih (L + 1) (by omega) (by omega) (enP_n.mp hP)
          rw [← nI_1 (L + 1)] at h9
          exact h9
        | succ s ih2 =>
          intro J hs hJ hP
          have ev : σ 6 (nI (L + 1 + J)).toNatClampNeg = m (13 + (L + 1) + J) := by
            rw [nI_clamp (by omega), hR.get (rqh (L + 1 + J) (by omega) (by omega))]
            congr 1; omega
          refine hX _ _ _ _ _ _ _ ?_
          refine b_gt rfl (b := 6) rfl (by omega) (by omega) (fun h => by omega) (fun _ => ?_)
          refine ⟨vp_in_nI (by omega) (by omega), ?_⟩
          refine c_wantedWithin hS (by omega) (by omega) hB hR ?_
          have eh : sHS m (L + 1) J + σ 6 (nI (L + 1 + J)).toNatClampNeg = sHS m (L + 1) (J + 1) := by rw [ev, sHS]
          refine ⟨fun h => ?_, fun h => ?_⟩
          · have h : sWn m S (L + 1) (L + 1 + J) nd ≤ sHS m (L + 1) J + σ 6 (nI (L + 1 + J)).toNatClampNeg := h
            have hc : enC m nd S L J := by rw [eh] at h; exact h
            refine hX _ _ _ _ _ _ _ ?_
            have h9 := ih2 (J + 1) (by omega) (by omega) (enP_s.mpr ⟨hP, hc⟩)
            rw [← eh, ← Nat.add_assoc, ← nI_1 (L + 1 + J)] at h9
            exact h9
          · have h : ¬ sWn m S (L + 1) (L + 1 + J) nd ≤ sHS m (L + 1) J + σ 6 (nI (L + 1 + J)).toNatClampNeg := h
            rw [eh] at h
            exact ⟨Or.inl rfl, q0 (enP_f (by omega) (by omega) h)⟩
      refine hX _ _ _ _ _ _ _ ?_
      refine b_gt rfl (b := 6) rfl (by omega) (by omega) (fun h => by omega) (fun _ => ?_)
      exact inner _ 0 rfl (by omega) hP
  refine hX _ _ _ _ _ _ _ ?_
  exact loop _ 0 rfl (by omega) (fun l j hj => by omega)
theorem sub_bit {S O : Nat} (h : S &&& O = S) {k : Nat} (hb : S.testBit k = true) : O.testBit k = true := by
  rw [← h, Nat.testBit_and, Bool.and_eq_true] at hb
  exact hb.2
theorem sub_of {S O n : Nat} (hS : S < 2 ^ n) (h : ∀ k, k < n → S.testBit k = true → O.testBit k = true) : S &&& O = S := by
  refine Nat.eq_of_testBit_eq (fun i => ?_)
  rw [Nat.testBit_and]
  cases hb : S.testBit i with
  | false => rfl
  | true =>
    have hi : i < n := by
      cases Nat.lt_or_ge i n with
      | inl h => exact h
      | inr h => rw [Nat.testBit_lt_two_pow (Nat.lt_of_lt_of_le hS (Nat.pow_le_pow_right (by omega) h))] at hb; cases hb
    rw [h i hi hb]; rfl
theorem c_worthOf {S : Nat} (hS : S < 2 ^ nd) (hB : BD m n nc ns nd) (hR : RS σ m) (q1 : S &&& opN m nd = S → Q (.inl (some (.int (nI (pyN m nd S))))) sh_7 σ) (q0 : ¬ S &&& opN m nd = S → Q (.inl (some (.int (-(nI 1))))) sh_7 σ) : mD (d + 4) 233 [.ref 0, .int (nI S)] sh_7 σ Q := by
  have hn := hB.2.2.2.1.2
  have h2n : 2 ^ nd ≤ 64 := Nat.pow_le_pow_right (by omega) hn
  have e6 : σ 0 10 = nI nd := (hR.get rf0.2.2.2.1).trans hB.2.2.2.1.1
  refine ⟨rfl, fun X hX => ?_⟩
  have loop : ∀ r k, nd - k = r → k ≤ nd → (∀ i, i < k → S.testBit i = true → (opN m nd).testBit i = true) → X 4 [some (.ref 0), some (.int (nI S)), some (.int (sPy m S k)), some (.int (nI k))] [] sh_7 σ 0 0 := by
    intro r
    induction r with
    | zero =>
      intro k hr hk hP
      have ek : k = nd := by omega
      subst ek
      refine hX _ _ _ _ _ _ _ ?_
      refine b_ge rfl e6 (by omega) (by omega) (fun _ => ?_) (fun h => by omega)
      refine hX _ _ _ _ _ _ _ ?_
      exact qi (pyN_ok hB).1.symm (q1 (sub_of hS hP))
    | succ r ih =>
      intro k hr hk hP
      have h9 := ih (k + 1) (by omega) (by omega)
      have es := bit_sh S (by omega) k (by omega)
      have eo : (opN m nd).testBit k = opB m k := by
        unfold opN
        rw [sN_bit, decide_eq_true (by omega), Bool.true_and]
      refine hX _ _ _ _ _ _ _ ?_
      refine b_ge rfl e6 (by omega) (by omega) (fun h => by omega) (fun _ => ?_)
      refine ⟨fun h => ?_, fun h => ?_⟩
      · have h : (nI S >>> (nI k &&& 31)) &&& nI 1 = 0 := h
        have hb : ¬ S.testBit k = true := by
          intro z
          rw [es, if_pos z] at h
          exact absurd h (by decide +kernel)
        refine hX _ _ _ _ _ _ _ ?_
        have h9 := h9 (fun i hi hbi => by
          by_cases e : i = k
          · subst e; exact absurd hbi hb
          · exact hP i (by omega) hbi)
        rw [sPy, if_neg hb, ← nI_1 k] at h9
        exact h9
      · have h : ¬ (nI S >>> (nI k &&& 31)) &&& nI 1 = 0 := h
        have hb : S.testBit k = true := by
          cases hb : S.testBit k with
          | true => rfl
          | false => rw [es, hb, if_neg (by decide)] at h; exact absurd rfl h
        refine c_isOpen (by omega) hR (fun ho => ?_) (fun ho => ?_)
        · refine ⟨fun _ => ?_, fun z => absurd z (by decide +kernel)⟩
          refine hX _ _ _ _ _ _ _ ?_
          refine c_priceOf (by omega) hR ?_
          refine hX _ _ _ _ _ _ _ ?_
          have h9 := h9 (fun i hi hbi => by
            by_cases e : i = k
            · subst e; rw [eo]; exact decide_eq_true (show m (93 + 5 * i + 4) = nI 1 from ho)
            · exact hP i (by omega) hbi)
          rw [sPy, if_pos hb, ← nI_1 k] at h9
          exact h9
        · refine ⟨fun z => absurd rfl z, fun _ => ?_⟩
          refine q0 (fun z => ho ?_)
          have := sub_bit z hb
          rw [eo] at this
          exact (of_decide_eq_true this : m (93 + 5 * k + 4) = nI 1)
  refine hX _ _ _ _ _ _ _ ?_
  exact loop _ 0 rfl (Nat.zero_le _) (fun i hi => by omega)
end CDE
