/-! BOTH SIDES: odds of fires -/
/-- of 100 to the power of n ways, in how many there are k fires at least -/
def wf (f : Nat) : Nat → Nat → Nat
  | 0, k => if k = 0 then 1 else 0
  | j + 1, k => f * wf f j (k - 1) + (100 - f) * wf f j k
def pr (f S : Nat) : Nat → Nat
  | 0 => 1
  | i + 1 => pr f S i * (if S.testBit i = true then f else 100 - f)
def oT (k S : Nat) : Nat := if pb S 7 < k then 0 else 1
def oS2 (f k j : Nat) : Nat → Nat
  | 0 => 0
  | S + 1 => oS2 f k j S + oT k S * pr f S j
def sOd (f j k : Nat) : Int32 := (lN (wf f j k * 10000) / lN (100 ^ j)).toInt32
def fiN (m : Nat → Int32) : Nat := (m 7).toNatClampNeg
theorem fiN_ok {m : Nat → Int32} {n nc ns nd : Nat} (hB : BD m n nc ns nd) : m 7 = nI (fiN m) ∧ fiN m ≤ 100 := by
  obtain ⟨q, h1, h2⟩ := hB.2.2.2.2.2.2.2.2.1
  have e : fiN m = q := clN h2 (by omega)
  exact ⟨by rw [e]; exact h2, by omega⟩
theorem wf_0 : ∀ f, f < 101 → ∀ j, j < 6 → wf f j 0 = 100 ^ j := by decide +kernel
theorem wf_s0 : ∀ f, f < 101 → ∀ k, k < 6 → oS2 f k 0 (2 ^ 0) = wf f 0 k := by decide +kernel
theorem wf_s1 : ∀ f, f < 101 → ∀ k, k < 6 → oS2 f k 1 (2 ^ 1) = wf f 1 k := by decide +kernel
theorem wf_s2 : ∀ f, f < 101 → ∀ k, k < 6 → oS2 f k 2 (2 ^ 2) = wf f 2 k := by decide +kernel
theorem wf_s3 : ∀ f, f < 101 → ∀ k, k < 6 → oS2 f k 3 (2 ^ 3) = wf f 3 k := by decide +kernel
theorem wf_s4 : ∀ f, f < 101 → ∀ k, k < 6 → oS2 f k 4 (2 ^ 4) = wf f 4 k := by decide +kernel
theorem wf_s5 : ∀ f, f < 101 → ∀ k, k < 6 → oS2 f k 5 (2 ^ 5) = wf f 5 k := by decide +kernel
theorem wf_s {f k j : Nat} (hf : f ≤ 100) (hj : j ≤ 5) (hk : k ≤ 5) : oS2 f k j (2 ^ j) = wf f j k := by
  rcases (by omega : j = 0 ∨ j = 1 ∨ j = 2 ∨ j = 3 ∨ j = 4 ∨ j = 5) with rfl | rfl | rfl | rfl | rfl | rfl
  · exact wf_s0 f (by omega) k (by omega)
  · exact wf_s1 f (by omega) k (by omega)
  · exact wf_s2 f (by omega) k (by omega)
  · exact wf_s3 f (by omega) k (by omega)
  · exact wf_s4 f (by omega) k (by omega)
  · exact wf_s5 f (by omega) k (by omega)
theorem od_c : ∀ j, j < 6 → (0 : Int32) ≤ lg_cmp (lN (100 ^ j)) (lN 1) := by decide +kernel
theorem od_n : ∀ j, j < 6 → ¬ lN (100 ^ j) = 0 := by decide +kernel
theorem od_g : ∀ i, i < 11 → ¬ (0 : Int32) < -(nI i) := by decide +kernel
theorem od_s : ∀ i, i < 11 → -(nI i) - nI 1 = -(nI (i + 1)) := by decide +kernel
/-- how many fires are still wanted, as the class has it -/
def wfk (j k : Nat) (y : Int32) : Prop := (y = nI k ∧ k ≤ 5) ∨ (k = 0 ∧ ∃ i, i + j ≤ 10 ∧ y = -(nI i))
theorem wfk_s {j k : Nat} {y : Int32} (h : wfk (j + 1) k y) : wfk j k y := by
  rcases h with h | ⟨h1, i, h2, h3⟩
  · exact Or.inl h
  · exact Or.inr ⟨h1, i, by omega, h3⟩
theorem wfk_p {j k : Nat} {y : Int32} (hj : j ≤ 5) (h : wfk (j + 1) k y) : wfk j (k - 1) (y - nI 1) := by
  rcases h with ⟨h1, h2⟩ | ⟨h1, i, h2, h3⟩
  · cases k with
    | zero => exact Or.inr ⟨rfl, 1, by omega, by rw [h1]; decide +kernel⟩
    | succ k => exact Or.inl ⟨by rw [h1, nI_sub (by omega)], by omega⟩
  · exact Or.inr ⟨by omega, i + 1, by omega, by rw [h3]; exact od_s i (by omega)⟩
section COD
variable {d : Nat} {σ : mSg} {m : Nat → Int32} {Q : mPst} {n nc ns nd : Nat}
set_option maxRecDepth 100000 in
theorem c_waysOfFire {f : Nat} (hf : σ 5 12 = nI f) (hf2 : f ≤ 100) : ∀ (j D k : Nat) (x y : Int32) (Q : mPst), j < D → j ≤ 5 → x = nI j → wfk j k y → Q (.inl (some (.long (lN (wf f j k))))) sh_9 σ → mD D 73 [.ref 0, .int x, .int y] sh_9 σ Q := by
  intro j
  induction j with
  | zero =>
    intro D k x y Q hD h5 hx hy hq
    obtain ⟨D, rfl⟩ : ∃ D', D = D' + 1 := ⟨D - 1, by omega⟩
    have hq : Q (.inl (some (.long (lN (if k = 0 then 1 else 0))))) sh_9 σ := hq
    refine ⟨rfl, fun X hX => ?_⟩
    refine hX _ _ _ _ _ _ _ ?_
    refine b_gt hx (b := 0) rfl (by omega) (by omega) (fun h => by omega) (fun _ => ?_)
    rcases hy with ⟨h1, h2⟩ | ⟨h1, i, h2, h3⟩
    · refine b_gt h1 (b := 0) rfl (by omega) (by omega) (fun h => ?_) (fun h => ?_)
      · rw [if_neg (by omega)] at hq
        refine hX _ _ _ _ _ _ _ ?_
        refine hX _ _ _ _ _ _ _ ?_
        exact hq
      · rw [if_pos (by omega)] at hq
        refine hX _ _ _ _ _ _ _ ?_
        exact hq
    · refine ⟨fun z => absurd (show (0 : Int32) < y from z) (by rw [h3]; exact od_g i (by omega)), fun _ => ?_⟩
      rw [if_pos h1] at hq
      refine hX _ _ _ _ _ _ _ ?_
      exact hq
  | succ j ih =>
    intro D k x y Q hD h5 hx hy hq
    obtain ⟨D, rfl⟩ : ∃ D', D = D' + 1 := ⟨D - 1, by omega⟩
    have ex : x - nI 1 = nI j := by rw [hx, nI_sub (by omega)]; rfl
    refine ⟨rfl, fun X hX => ?_⟩
    refine hX _ _ _ _ _ _ _ ?_
    refine b_gt hx (b := 0) rfl (by omega) (by omega) (fun _ => ?_) (fun h => by omega)
    refine hX _ _ _ _ _ _ _ ?_
    refine ih D (k - 1) _ _ _ (by omega) (by omega) ex (wfk_p (by omega) hy) ?_
    refine ih D k _ _ _ (by omega) (by omega) ex (wfk_s hy) ?_
    have e : lN (wf f (j + 1) k) = (σ 5 12).toInt64 * lN (wf f j (k - 1)) + (nI 100 - σ 5 12).toInt64 * lN (wf f j k) := by
      rw [hf, nI_sub hf2, nI_l (by omega), nI_l (by omega), lN_mul, lN_mul, lN_add]
      rfl
    rw [e] at hq
    exact hq
set_option maxRecDepth 100000 in
theorem c_yodds {p w : Int32} (hB : BD m n nc ns nd) (hR : RYs σ m) (q1 : ∀ a b, a ≤ 5 → p = nI a → b ≤ 5 → w = nI b → Q (.inl (some (.int (sOd (fiN m) a b)))) sh_9 σ) (q0 : ¬ ((∃ a, 0 ≤ a ∧ a ≤ 5 ∧ p = nI a) ∧ ∃ a, 0 ≤ a ∧ a ≤ 5 ∧ w = nI a) → Q (.inr 0) sh_9 σ) : mD (d + 7) 42 [.ref 0, .int p, .int w] sh_9 σ Q := by
  obtain ⟨hf, hf2⟩ := fiN_ok hB
  have hf : σ 5 12 = nI (fiN m) := (hR.g rf0.2.2.2.2.2.1).trans hf
  refine ⟨rfl, fun X hX => ?_⟩
  have bad : ¬ ((∃ a, 0 ≤ a ∧ a ≤ 5 ∧ p = nI a) ∧ ∃ a, 0 ≤ a ∧ a ≤ 5 ∧ w = nI a) → X 18 [none, none, none, none, none] [] sh_9 σ 0 0 := by
    intro h
    refine hX _ _ _ _ _ _ _ ?_
    exact q0 h
  refine hX _ _ _ _ _ _ _ ?_
  rcases rng2 (p := p) (a := 0) (b := 5) (by omega) (by omega) with hy | hy | ⟨a, -, h2, rfl⟩
  · exact ⟨fun _ => bad (fun z => rng2_no (by omega) (by omega) (Or.inl hy) z.1), fun z => absurd hy z⟩
  · exact ⟨fun _ => bad (fun z => rng2_no (by omega) (by omega) (Or.inr hy) z.1), fun _ => ⟨fun _ => bad (fun z => rng2_no (by omega) (by omega) (Or.inr hy) z.1), fun z => absurd hy z⟩⟩
  refine ⟨fun z => absurd z (nI_pos (by omega)), fun _ => ?_⟩
  refine b_gt rfl (b := 5) rfl (by omega) (by omega) (fun h => by omega) (fun _ => ?_)
  rcases rng2 (p := w) (a := 0) (b := 5) (by omega) (by omega) with hy | hy | ⟨b, -, h3, rfl⟩
  · exact ⟨fun _ => bad (fun z => rng2_no (by omega) (by omega) (Or.inl hy) z.2), fun z => absurd hy z⟩
  · exact ⟨fun _ => bad (fun z => rng2_no (by omega) (by omega) (Or.inr hy) z.2), fun _ => ⟨fun z => absurd hy (Int32.not_lt.mpr z), fun _ => bad (fun z => rng2_no (by omega) (by omega) (Or.inr hy) z.2)⟩⟩
  have hq := q1 a b h2 rfl h3 rfl
  refine ⟨fun z => absurd z (nI_pos (by omega)), fun _ => ⟨fun _ => ?_, fun z => absurd (nI_le h3 (by omega)) z⟩⟩
  refine hX _ _ _ _ _ _ _ ?_
  refine c_waysOfFire hf hf2 a _ 0 _ _ _ (by omega) h2 rfl (Or.inl ⟨rfl, by omega⟩) ?_
  rw [wf_0 (fiN m) (by omega) a (by omega)]
  refine ⟨fun _ => ?_, fun z => absurd (od_c a (by omega)) z⟩
  refine hX _ _ _ _ _ _ _ ?_
  refine c_waysOfFire hf hf2 a _ b _ _ _ (by omega) h2 rfl (Or.inl ⟨rfl, h3⟩) ?_
  refine ⟨od_n a (by omega), ?_⟩
  refine hX _ _ _ _ _ _ _ ?_
  unfold sOd at hq
  rw [← lN_mul] at hq
  exact hq
end COD
section MOD
variable {d : Nat} {σ : mSg} {Q : mPst} {n nc ns nd : Nat}
theorem g_odds {p w : Int32} (hB : BD (σ 1) n nc ns nd) (q1 : ∀ a b, a ≤ 5 → p = nI a → b ≤ 5 → w = nI b → ∀ σ', MX σ (σ 1) (nI 0) σ' → Q (.inl (some (.int (sOd (fiN (σ 1)) a b)))) sh_10 σ') (q0 : ¬ ((∃ a, 0 ≤ a ∧ a ≤ 5 ∧ p = nI a) ∧ ∃ a, 0 ≤ a ∧ a ≤ 5 ∧ w = nI a) → ∀ σ', MX σ (σ 1) (nI 1) σ' → Q (.inl (some (.int (nI 0)))) sh_10 σ') : mD (d + 3) 209 [.ref 0, .int p, .int w] sh_10 σ Q := by
  obtain ⟨hf, hf2⟩ := fiN_ok hB
  refine ⟨rfl, fun X hX => ?_⟩
  have bad : ¬ ((∃ a, 0 ≤ a ∧ a ≤ 5 ∧ p = nI a) ∧ ∃ a, 0 ≤ a ∧ a ≤ 5 ∧ w = nI a) → X 19 [some (.ref 0), some (.int p), some (.int w), none, none, none, none, none, none, none, none] [.ref 0] sh_10 σ 0 0 := by
    intro h
    refine hX _ _ _ _ _ _ _ ?_
    refine hX _ _ _ _ _ _ _ ?_
    refine ⟨fun z => absurd (show nI 1 ≤ 0 from z) (by decide +kernel), fun _ => ?_⟩
    exact q0 h _ MX.th
  refine hX _ _ _ _ _ _ _ ?_
  refine g_isIn (fun h1 => ?_) (fun h1 => ?_)
  · have h1 : sIn p (nI 0) (nI 5) := h1
    rw [sIn2_iff (by omega) (by omega)] at h1
    refine ⟨fun z => absurd z (by decide +kernel), fun _ => ?_⟩
    refine g_isIn (fun h2 => ?_) (fun h2 => ?_)
    · have h2 : sIn w (nI 0) (nI 5) := h2
      rw [sIn2_iff (by omega) (by omega)] at h2
      obtain ⟨a, -, ha5, rfl⟩ := h1
      obtain ⟨b, -, hb5, rfl⟩ := h2
      have hq := q1 a b ha5 rfl hb5 rfl _ MX.th
      have h2a : 2 ^ a ≤ 2 ^ 5 := Nat.pow_le_pow_right (by omega) ha5
      have h2a : 2 ^ a ≤ 32 := h2a
      have ea : nI 1 <<< (nI a &&& 31) = nI (2 ^ a) := bit_one a (by omega)
      unfold sOd at hq
      rw [← wf_s hf2 ha5 hb5, Nat.mul_comm, ← lN_mul] at hq
      generalize fiN (σ 1) = f at hf hf2 hq
      have e7 : (mput σ 0 0 (nI 0)) 1 (nI 7).toNatClampNeg = nI f := hf
      have inn : ∀ S, S < 2 ^ a → (X 143 [some (.ref 0), some (.int (nI a)), some (.int (nI b)), some (.long (lN (oS2 f b a S))), none, some (.long (lN (100 ^ a))), none, some (.int (nI S)), some (.long (lN (oT b S * pr f S a))), none, none] [] sh_10 (mput σ 0 0 (nI 0)) 0 0) → ∀ r i, a - i = r → i ≤ a → X 94 [some (.ref 0), some (.int (nI a)), some (.int (nI b)), some (.long (lN (oS2 f b a S))), none, some (.long (lN (100 ^ a))), none, some (.int (nI S)), some (.long (lN (oT b S * pr f S i))), none, some (.int (nI i))] [] sh_10 (mput σ 0 0 (nI 0)) 0 0 := by
        intro S hS hk r
        induction r with
        | zero =>
          intro i hr hi
          have ei : i = a := by omega
          subst ei
          refine hX _ _ _ _ _ _ _ ?_
          refine b_ge rfl rfl (by omega) (by omega) (fun _ => ?_) (fun h => by omega)
          exact hk
        | succ r ih =>
          intro i hr hi
          have hb := bit_is S (by omega) i (by omega)
          have p134 : ∀ q, q = (if S.testBit i = true then f else 100 - f) → X 134 [some (.ref 0), some (.int (nI a)), some (.int (nI b)), some (.long (lN (oS2 f b a S))), none, some (.long (lN (100 ^ a))), none, some (.int (nI S)), none, none, some (.int (nI i))] [.long (lN q), .long (lN (oT b S * pr f S i))] sh_10 (mput σ 0 0 (nI 0)) 0 0 := by
            intro q hqq
            refine hX _ _ _ _ _ _ _ ?_
            have h9 := ih (i + 1) (by omega) (by omega)
            rw [pr, ← hqq, ← Nat.mul_assoc, ← lN_mul, ← nI_1 i] at h9
            exact h9
          refine hX _ _ _ _ _ _ _ ?_
          refine b_ge rfl rfl (by omega) (by omega) (fun h => by omega) (fun _ => ?_)
          refine g_isOf (fun h3 => ?_) (fun h3 => ?_)
          · have ht : S.testBit i = true := by
              refine Classical.byContradiction (fun z => ?_)
              rw [hb, if_neg z] at h3
              exact absurd h3 (by decide +kernel)
            rw [if_pos ht] at p134
            refine ⟨fun z => absurd z (by decide +kernel), fun _ => ?_⟩
            refine ⟨vp_in_nI (n := 7) (by omega) (by omega), ?_⟩
            have h9 := p134 f rfl
            rw [← nI_l (n := f) (by omega), ← e7] at h9
            exact h9
          · have ht : ¬ S.testBit i = true := fun z => h3 (by rw [hb, if_pos z])
            rw [if_neg ht] at p134
            refine ⟨fun _ => ?_, fun z => absurd rfl z⟩
            refine hX _ _ _ _ _ _ _ ?_
            refine ⟨vp_in_nI (n := 7) (by omega) (by omega), ?_⟩
            have h9 := p134 (100 - f) rfl
            rw [← nI_l (n := 100 - f) (by omega), ← nI_sub hf2, ← e7] at h9
            exact h9
      have out : ∀ r S, 2 ^ a - S = r → S ≤ 2 ^ a → X 67 [some (.ref 0), some (.int (nI a)), some (.int (nI b)), some (.long (lN (oS2 f b a S))), none, some (.long (lN (100 ^ a))), none, some (.int (nI S)), none, none, none] [] sh_10 (mput σ 0 0 (nI 0)) 0 0 := by
        intro r
        induction r with
        | zero =>
          intro S hr hS
          have eS : S = 2 ^ a := by omega
          rw [eS]
          refine hX _ _ _ _ _ _ _ ?_
          refine b_ge rfl ea (by omega) (by omega) (fun _ => ?_) (fun h => by omega)
          refine hX _ _ _ _ _ _ _ ?_
          refine ⟨od_n a (by omega), ?_⟩
          exact hq
        | succ r ih =>
          intro S hr hS
          have hpb := pb_le S (by omega)
          have p89 : ∀ q, q = oT b S → X 89 [some (.ref 0), some (.int (nI a)), some (.int (nI b)), some (.long (lN (oS2 f b a S))), none, some (.long (lN (100 ^ a))), none, some (.int (nI S)), none, none, none] [.long (lN q)] sh_10 (mput σ 0 0 (nI 0)) 0 0 := by
            intro q hqq
            refine hX _ _ _ _ _ _ _ ?_
            have h9 := inn S (by omega) (by
              refine hX _ _ _ _ _ _ _ ?_
              have h8 := ih (S + 1) (by omega) (by omega)
              rw [oS2, ← lN_add, ← nI_1 S] at h8
              exact h8) _ 0 rfl (Nat.zero_le _)
            rw [pr, Nat.mul_one, ← hqq] at h9
            exact h9
          refine hX _ _ _ _ _ _ _ ?_
          refine b_ge rfl ea (by omega) (by omega) (fun h => by omega) (fun _ => ?_)
          refine g_bits rfl (show S < 128 by omega) ?_
          refine b_ge rfl rfl (by omega) (by omega) (fun h => ?_) (fun h => ?_)
          · refine hX _ _ _ _ _ _ _ ?_
            exact p89 1 (by unfold oT; rw [if_neg (by omega)])
          · exact p89 0 (by unfold oT; rw [if_pos h])
      have whl : ∀ r i, a - i = r → i ≤ a → X 44 [some (.ref 0), some (.int (nI a)), some (.int (nI b)), some (.long (lN 0)), none, some (.long (lN (100 ^ i))), none, some (.int (nI i)), none, none, none] [] sh_10 (mput σ 0 0 (nI 0)) 0 0 := by
        intro r
        induction r with
        | zero =>
          intro i hr hi
          have ei : i = a := by omega
          subst ei
          refine hX _ _ _ _ _ _ _ ?_
          refine b_ge rfl rfl (by omega) (by omega) (fun _ => ?_) (fun h => by omega)
          refine hX _ _ _ _ _ _ _ ?_
          exact out _ 0 rfl (Nat.zero_le _)
        | succ r ih =>
          intro i hr hi
          refine hX _ _ _ _ _ _ _ ?_
          refine b_ge rfl rfl (by omega) (by omega) (fun h => by omega) (fun _ => ?_)
          have h9 := ih (i + 1) (by omega) (by omega)
          rw [Nat.pow_succ, ← lN_mul, ← nI_1 i] at h9
          exact h9
      refine ⟨fun _ => ?_, fun z => absurd z (by decide +kernel)⟩
      refine hX _ _ _ _ _ _ _ ?_
      refine hX _ _ _ _ _ _ _ ?_
      refine ⟨fun _ => ?_, fun z => absurd (show nI 0 ≤ 0 from by decide +kernel) z⟩
      refine hX _ _ _ _ _ _ _ ?_
      exact whl _ 0 rfl (Nat.zero_le _)
    · have h2 : ¬ sIn w (nI 0) (nI 5) := h2
      rw [sIn2_iff (by omega) (by omega)] at h2
      exact ⟨fun z => absurd rfl z, fun _ => bad (fun z => h2 z.2)⟩
  · have h1 : ¬ sIn p (nI 0) (nI 5) := h1
    rw [sIn2_iff (by omega) (by omega)] at h1
    exact ⟨fun _ => bad (fun z => h1 z.1), fun z => absurd rfl z⟩
end MOD
