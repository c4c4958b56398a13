/-! THE MODEL: rounds by sets -/
/-- tables of the rounds, right for the sets below one -/
def AL (σ : mSg) (n S : Nat) (W : mSg) : Prop := (∀ c, c ≠ 7 → c ≠ 8 → W c = σ c) ∧ (∀ T, T < S → W 8 T = nI (mWh (σ 1) n T)) ∧ ∀ T k, T < S → k < n → T.testBit k = true → W 7 (7 * T + k) = nI (mUp (σ 1) n T k)
theorem mnO_s {P : Nat → Bool} {f : Nat → Nat} {i : Nat} : mnO P f (i + 1) = if P i = true then some (match mnO P f i with | none => f i | some y => min y (f i)) else mnO P f i := rfl
theorem oM_step {P : Nat → Bool} {f : Nat → Nat} {k b : Nat} {x : Int32} (hp : P k = true) (hb : b < 2 ^ 31) (hf : ∀ i, i ≤ k → P i = true → f i < b) (hx : x = nI (f k)) : sMin (oM (nI b) (mnO P f k)) x = oM (nI b) (mnO P f (k + 1)) := by
  have hk := hf k (Nat.le_refl _) hp
  rw [mnO_s, if_pos hp, hx]
  cases h : mnO P f k with
  | none =>
    show sMin (nI b) (nI (f k)) = nI (f k)
    rw [sMin_nI (by omega) (by omega), Nat.min_eq_right (by omega)]
  | some y =>
    have := mnO_le (B := b - 1) k y (fun i hi hp => by have := hf i (by omega) hp; omega) h
    exact sMin_nI (by omega) (by omega)
theorem bit_ex : ∀ n, n < 8 → ∀ S, S < 2 ^ n → 0 < S → ∃ i, i < n ∧ S.testBit i = true := by decide +kernel
theorem oM_get {b : Int32} {P : Nat → Bool} {f : Nat → Nat} {n i : Nat} (hi : i < n) (hp : P i = true) : oM b (mnO P f n) = nI ((mnO P f n).getD 0) := by
  obtain ⟨y, hy⟩ := mnO_some (f := f) n i hi hp
  rw [hy]
  rfl
theorem AL.p7 {σ W : mSg} {n S i : Nat} {v : Int32} (hn : n ≤ 7) (h : AL σ n S W) (hi : 7 * S ≤ i) : AL σ n S (mput W 7 i v) := ⟨fun c h1 h2 => by rw [mput_ne h1]; exact h.1 c h1 h2, fun T hT => by rw [mput_ne (by omega)]; exact h.2.1 T hT, fun T k hT hk hb => by rw [mput_eq, upd_off (by omega)]; exact h.2.2 T k hT hk hb⟩
theorem AL.p8 {σ W : mSg} {n S i : Nat} {v : Int32} (h : AL σ n S W) (hi : S ≤ i) : AL σ n S (mput W 8 i v) := ⟨fun c h1 h2 => by rw [mput_ne h2]; exact h.1 c h1 h2, fun T hT => by rw [mput_eq, upd_off (by omega)]; exact h.2.1 T hT, fun T k hT hk hb => by rw [mput_ne (by omega)]; exact h.2.2 T k hT hk hb⟩
section MLO
variable {d : Nat} {σ : mSg} {Q : mPst} {n nc ns nd : Nat}
set_option maxHeartbeats 4000000 in
theorem g_allLoops (hB : BD (σ 1) n nc ns nd) (hq : ∀ σ', AL σ n (2 ^ n) σ' → Q (.inl none) sh_10 σ') : mD (d + 3) 149 [.ref 0] sh_10 σ Q := by
  have hn := hB.1.2
  have h2n : 2 ^ n ≤ 128 := Nat.pow_le_pow_right (by omega) hn
  refine ⟨rfl, fun X hX => ?_⟩
  have loop : ∀ r S W, 2 ^ n - S = r → S ≤ 2 ^ n → 0 < S → AL σ n S W → X 9 [some (.ref 0), some (.int (nI S)), none, none, none, none] [] sh_10 W 0 0 := by
    intro r
    induction r with
    | zero =>
      intro S W hr hS hS0 hW
      have eS : S = 2 ^ n := by omega
      subst eS
      have e3 : W 1 3 = nI n := by rw [hW.1 1 (by omega) (by omega)]; exact hB.1.1
      have e4 : nI 1 <<< (W 1 3 &&& 31) = nI (2 ^ n) := by rw [e3]; exact bit_one n (by omega)
      refine hX _ _ _ _ _ _ _ ?_
      refine ⟨vp_in_nI (n := 3) (by omega) (by omega), ?_⟩
      refine b_ge rfl e4 (by omega) (by omega) (fun _ => ?_) (fun h => by omega)
      refine hX _ _ _ _ _ _ _ ?_
      exact hq _ hW
    | succ r ih =>
      intro S W hr hS hS0 hW
      have hS2 : S < 128 := by omega
      have e3 : W 1 3 = nI n := by rw [hW.1 1 (by omega) (by omega)]; exact hB.1.1
      have e4 : nI 1 <<< (W 1 3 &&& 31) = nI (2 ^ n) := by rw [e3]; exact bit_one n (by omega)
      have lk : ∀ t k W, n - k = t → k ≤ n → AL σ n S W → W 8 S = oM (nI 2000000000) (mnO (fun k => S.testBit k) (fun k => mUp (σ 1) n S k + zN (σ 1) k) k) → (∀ i, i < k → S.testBit i = true → W 7 (7 * S + i) = nI (mUp (σ 1) n S i)) → X 32 [some (.ref 0), some (.int (nI S)), some (.int (nI k)), none, none, none] [] sh_10 W 0 0 := by
        intro t
        induction t with
        | zero =>
          intro k W ht hk hW h8 h7
          have ek : k = n := by omega
          subst ek
          have e3 : W 1 3 = nI k := by rw [hW.1 1 (by omega) (by omega)]; exact hB.1.1
          refine hX _ _ _ _ _ _ _ ?_
          refine ⟨vp_in_nI (n := 3) (by omega) (by omega), ?_⟩
          refine b_ge rfl e3 (by omega) (by omega) (fun _ => ?_) (fun h => by omega)
          refine hX _ _ _ _ _ _ _ ?_
          obtain ⟨i, hi, hb⟩ := bit_ex k (by omega) S (by omega) hS0
          have h9 := ih (S + 1) W (by omega) (by omega) (by omega) ⟨hW.1, fun T hT => ?_, fun T i hT hi hb => ?_⟩
          · rw [← nI_1 S] at h9
            exact h9
          · by_cases eT : T = S
            · rw [eT, h8]
              exact oM_get hi hb
            · exact hW.2.1 T (by omega)
          · by_cases eT : T = S
            · rw [eT] at hb ⊢
              exact h7 i hi hb
            · exact hW.2.2 T i (by omega) hi hb
        | succ t ih2 =>
          intro k W ht hk hW h8 h7
          have e7 : nI 7 * nI S + nI k = nI (7 * S + k) := by rw [nI_mul, nI_add]
          have nxt : ∀ W, AL σ n S W → W 8 S = oM (nI 2000000000) (mnO (fun k => S.testBit k) (fun k => mUp (σ 1) n S k + zN (σ 1) k) (k + 1)) → (∀ i, i < k + 1 → S.testBit i = true → W 7 (7 * S + i) = nI (mUp (σ 1) n S i)) → X 186 [some (.ref 0), some (.int (nI S)), some (.int (nI k)), none, none, none] [] sh_10 W 0 0 := by
            intro W hW h8 h7
            refine hX _ _ _ _ _ _ _ ?_
            have h9 := ih2 (k + 1) W (by omega) (by omega) hW h8 h7
            rw [← nI_1 k] at h9
            exact h9
          have outb : ¬ S.testBit k = true → ∀ W, AL σ n S W → W 8 S = oM (nI 2000000000) (mnO (fun k => S.testBit k) (fun k => mUp (σ 1) n S k + zN (σ 1) k) k) → (∀ i, i < k → S.testBit i = true → W 7 (7 * S + i) = nI (mUp (σ 1) n S i)) → X 186 [some (.ref 0), some (.int (nI S)), some (.int (nI k)), none, none, none] [] sh_10 W 0 0 := by
            intro hb W hW h8 h7
            refine nxt W hW ?_ (fun i hi hp => h7 i (by have : i ≠ k := fun z => hb (z ▸ hp); omega) hp)
            rw [mnO_s, if_neg hb]
            exact h8
          have inb : S.testBit k = true → ∀ W, AL σ n S W → W 8 S = oM (nI 2000000000) (mnO (fun k => S.testBit k) (fun k => mUp (σ 1) n S k + zN (σ 1) k) k) → (∀ i, i < k → S.testBit i = true → W 7 (7 * S + i) = nI (mUp (σ 1) n S i)) → X 67 [some (.ref 0), some (.int (nI S)), some (.int (nI k)), none, none, none] [] sh_10 W 0 0 := by
            intro hb W hW h8 h7
            have p2 := Nat.two_pow_pos k
            have p3 := Nat.ge_two_pow_of_testBit hb
            have eT := bit_out S hS2 k (by omega) hb
            generalize hT : S - 2 ^ k = T at eT
            have e1 : W 1 = σ 1 := hW.1 1 (by omega) (by omega)
            have e3 : W 1 3 = nI n := by rw [e1]; exact hB.1.1
            have hBW : BD (W 1) n nc ns nd := by rw [e1]; exact hB
            have wz : sWay (W 1) none (some k) = nI (zN (σ 1) k) := by rw [e1]; exact (zN_ok hB (by omega)).1
            have hup : (if T = 0 then nI (zN (σ 1) k) else oM (nI 2000000000) (mnO (fun j => T.testBit j) (fun j => mUp (σ 1) n T j + dN (σ 1) j k) n)) = nI (mUp (σ 1) n S k) := by
              unfold mUp
              rw [sUp, hT]
              by_cases h0 : T = 0
              · rw [if_pos h0, dif_pos h0]
              · rw [if_neg h0, dif_neg h0]
                obtain ⟨i, hi, hb⟩ := bit_ex n (by omega) T (by omega) (by omega)
                exact oM_get hi hb
            have l149 : ∀ x, x = nI (mUp (σ 1) n S k) → X 149 [some (.ref 0), some (.int (nI S)), some (.int (nI k)), none, some (.int x), none] [] sh_10 W 0 0 := by
              intro x hx
              subst hx
              have wz2 : sWay (W 1) (some k) none = nI (zN (σ 1) k) := by rw [sWay_comm]; exact wz
              refine hX _ _ _ _ _ _ _ ?_
              refine ⟨vin e7 (by omega) (by omega), ?_⟩
              refine ⟨vp_in_nI (n := S) (by omega) (by omega), ?_⟩
              refine g_wayOf (s := some k) (o := none) (fun q h => by cases h; omega) (fun q h => by cases h) ?_
              refine g_lesser ?_
              refine ⟨vp_in_nI (n := S) (by omega) (by omega), ?_⟩
              refine nxt _ ?_ ?_ (fun i hi hp => ?_)
              · show AL σ n S (mput (mput W 7 (nI 7 * nI S + nI k).toNatClampNeg _) 8 (nI S).toNatClampNeg _)
                rw [clN e7 (by omega), nI_clamp (by omega)]
                exact (hW.p7 hn (by omega)).p8 (Nat.le_refl _)
              · show upd (W 8) (nI S).toNatClampNeg (sMin (W 8 (nI S).toNatClampNeg) (nI (mUp (σ 1) n S k) + sWay (W 1) (some k) none)) S = _
                rw [nI_clamp (by omega), h8, wz2, nI_add]
                refine (if_pos rfl).trans ?_
                refine oM_step (P := fun k => S.testBit k) (f := fun k => mUp (σ 1) n S k + zN (σ 1) k) hb (by omega) (fun i hi hp => ?_) rfl
                have b3 := mUp_le hB (show i < n by omega) hS2 hp
                have b4 := (zN_ok hB (show i < n by omega)).2
                show mUp (σ 1) n S i + zN (σ 1) i < _
                omega
              · show upd (W 7) (nI 7 * nI S + nI k).toNatClampNeg (nI (mUp (σ 1) n S k)) (7 * S + i) = _
                rw [clN e7 (by omega)]
                by_cases ei : i = k
                · rw [ei]
                  exact if_pos rfl
                · rw [upd_off (by omega)]
                  exact h7 i (by omega) hp
            have lj : ∀ q j, n - j = q → j ≤ n → X 96 [some (.ref 0), some (.int (nI S)), some (.int (nI k)), some (.int (nI T)), some (.int (if T = 0 then nI (zN (σ 1) k) else oM (nI 2000000000) (mnO (fun j => T.testBit j) (fun j => mUp (σ 1) n T j + dN (σ 1) j k) j))), some (.int (nI j))] [] sh_10 W 0 0 := by
              intro q
              induction q with
              | zero =>
                intro j hq hj
                have ej : j = n := by omega
                rw [ej]
                refine hX _ _ _ _ _ _ _ ?_
                refine ⟨vp_in_nI (n := 3) (by omega) (by omega), ?_⟩
                refine b_ge rfl e3 (by omega) (by omega) (fun _ => ?_) (fun h => by omega)
                exact l149 _ hup
              | succ q ih3 =>
                intro j hq hj
                have e7T : nI 7 * nI T + nI j = nI (7 * T + j) := by rw [nI_mul, nI_add]
                have wd : sWay (W 1) (some j) (some k) = nI (dN (σ 1) j k) := by rw [e1]; exact (dN_ok hB (by omega) (by omega)).1
                have nxj : ∀ x, x = (if T = 0 then nI (zN (σ 1) k) else oM (nI 2000000000) (mnO (fun j => T.testBit j) (fun j => mUp (σ 1) n T j + dN (σ 1) j k) (j + 1))) → X 143 [some (.ref 0), some (.int (nI S)), some (.int (nI k)), some (.int (nI T)), some (.int x), some (.int (nI j))] [] sh_10 W 0 0 := by
                  intro x hx
                  refine hX _ _ _ _ _ _ _ ?_
                  have h9 := ih3 (j + 1) (by omega) (by omega)
                  rw [← hx, ← nI_1 j] at h9
                  exact h9
                have hbj := bit_is T (by omega) j (by omega)
                refine hX _ _ _ _ _ _ _ ?_
                refine ⟨vp_in_nI (n := 3) (by omega) (by omega), ?_⟩
                refine b_ge rfl e3 (by omega) (by omega) (fun h => by omega) (fun _ => ?_)
                refine g_isOf (fun h => ?_) (fun h => ?_)
                · have hbt : T.testBit j = true := by
                    by_cases hb : T.testBit j = true
                    · exact hb
                    · rw [if_neg hb] at hbj
                      rw [hbj] at h
                      exact absurd h (by decide +kernel)
                  have hT0 : T ≠ 0 := fun z => by rw [z, Nat.zero_testBit] at hbt; cases hbt
                  refine ⟨fun z => absurd z (by decide +kernel), fun _ => ?_⟩
                  refine ⟨vin e7T (by omega) (by omega), ?_⟩
                  refine g_wayOf (s := some j) (o := some k) (fun q h => by cases h; omega) (fun q h => by cases h; omega) ?_
                  refine g_lesser ?_
                  refine nxj _ ?_
                  show sMin _ (W 7 (nI 7 * nI T + nI j).toNatClampNeg + sWay (W 1) (some j) (some k)) = _
                  rw [clN e7T (by omega), wd, hW.2.2 T j (by omega) (by omega) hbt, nI_add, if_neg hT0, if_neg hT0]
                  refine oM_step (P := fun j => T.testBit j) (f := fun j => mUp (σ 1) n T j + dN (σ 1) j k) hbt (by omega) (fun i hi hp => ?_) rfl
                  have b3 := mUp_le hB (show i < n by omega) (show T < 128 by omega) hp
                  have b4 := (dN_ok hB (show i < n by omega) (show k < n by omega)).2
                  show mUp (σ 1) n T i + dN (σ 1) i k < _
                  omega
                · refine ⟨fun _ => ?_, fun z => absurd rfl z⟩
                  refine nxj _ ?_
                  by_cases hb : T.testBit j = true
                  · rw [if_pos hb] at hbj
                    exact absurd hbj h
                  · rw [mnO_s, if_neg hb]
            refine hX _ _ _ _ _ _ _ ?_
            refine b_ne eT (b := 0) rfl (by omega) (by omega) (fun h => ?_) (fun h => ?_)
            · refine hX _ _ _ _ _ _ _ ?_
              refine hX _ _ _ _ _ _ _ ?_
              have h9 := lj _ 0 rfl (by omega)
              rw [if_neg h, ← eT] at h9
              exact h9
            · refine g_wayOf (s := none) (o := some k) (fun q h => by cases h) (fun q h => by cases h; omega) ?_
              refine hX _ _ _ _ _ _ _ ?_
              have h9 := lj _ 0 rfl (by omega)
              rw [if_pos h, ← eT, ← wz] at h9
              exact h9
          have e3 : W 1 3 = nI n := by rw [hW.1 1 (by omega) (by omega)]; exact hB.1.1
          refine hX _ _ _ _ _ _ _ ?_
          refine ⟨vp_in_nI (n := 3) (by omega) (by omega), ?_⟩
          refine b_ge rfl e3 (by omega) (by omega) (fun h => by omega) (fun _ => ?_)
          refine ⟨vin e7 (by omega) (by omega), ?_⟩
          have a1 : AL σ n S (mput W 7 (nI 7 * nI S + nI k).toNatClampNeg (nI 2000000000)) := by rw [clN e7 (by omega)]; exact hW.p7 hn (by omega)
          have a3 : ∀ i, i < k → S.testBit i = true → mput W 7 (nI 7 * nI S + nI k).toNatClampNeg (nI 2000000000) 7 (7 * S + i) = nI (mUp (σ 1) n S i) := by
            intro i hi hp
            rw [clN e7 (by omega), mput_eq, upd_off (by omega)]
            exact h7 i hi hp
          have hbi := bit_is S hS2 k (by omega)
          refine g_isOf (fun h => ?_) (fun h => ?_)
          · refine ⟨fun _ => ?_, fun z => absurd z (by decide +kernel)⟩
            refine inb ?_ _ a1 h8 a3
            by_cases hb : S.testBit k = true
            · exact hb
            · rw [if_neg hb] at hbi
              rw [hbi] at h
              exact absurd h (by decide +kernel)
          · refine ⟨fun z => absurd rfl z, fun _ => ?_⟩
            refine outb (fun hb => ?_) _ a1 h8 a3
            rw [if_pos hb] at hbi
            exact h hbi
      refine hX _ _ _ _ _ _ _ ?_
      refine ⟨vp_in_nI (n := 3) (by omega) (by omega), ?_⟩
      refine b_ge rfl e4 (by omega) (by omega) (fun h => by omega) (fun _ => ?_)
      refine ⟨vp_in_nI (n := S) (by omega) (by omega), ?_⟩
      have h9 := lk _ 0 (mput W 8 S (nI 2000000000)) rfl (by omega) ?_ ?_ (fun i hi => absurd hi (by omega))
      · have e : mput W 8 S (nI 2000000000) = mput W 8 (nI S).toNatClampNeg (nI 2000000000) := by rw [nI_clamp (show S < 2 ^ 31 by omega)]
        rw [e] at h9
        exact h9
      · exact hW.p8 (Nat.le_refl _)
      · rw [mput_eq]
        exact if_pos rfl
  refine hX _ _ _ _ _ _ _ ?_
  refine ⟨vp_in_nI (n := 0) (by omega) (by omega), ?_⟩
  refine loop _ 1 _ rfl (Nat.one_le_two_pow) (by omega) ⟨fun c h1 h2 => mput_ne h2, fun T hT => ?_, fun T k hT hk hb => ?_⟩
  · have : T = 0 := by omega
    subst this
    rw [mWh0]
    rfl
  · have : T = 0 := by omega
    subst this
    rw [Nat.zero_testBit] at hb
    cases hb
end MLO
