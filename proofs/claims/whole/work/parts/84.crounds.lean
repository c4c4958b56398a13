/-! THE CLASS: rounds by sets -/
/-- tables of the rounds, right for the sets below one; the yard as ahead -/
def AC (σ : mSg) (m : Nat → Int32) (n S : Nat) (W : mSg) : Prop := (∀ c, c ≠ 1 → c ≠ 2 → W c = σ c) ∧ (∀ T, T < S → W 1 T = nI (mWh m n T)) ∧ ∀ T k, T < S → k < n → T.testBit k = true → W 2 (7 * T + k) = nI (mUp m n T k)
def RR (σ : mSg) (m : Nat → Int32) : Prop := RS (fun j => σ (mgl [(4, 9)] j)) m
theorem rn4 {σ W : mSg} (h : W = σ) : mback [(4, 9)] W (fun j => W (mgl [(4, 9)] j)) = σ := by rw [same1, h]
theorem rs4 {σ W : mSg} {m : Nat → Int32} (h : W = σ) (hR : RR σ m) : RS (fun j => W (mgl [(4, 9)] j)) m := by rw [h]; exact hR
theorem RR.g {σ : mSg} {m : Nat → Int32} (h : RR σ m) {k i : Nat} (hr : rp 0 k = some i) : σ 4 k = m i := RS.get (σ := fun j => σ (mgl [(4, 9)] j)) h hr
theorem bit_sh : ∀ S, S < 128 → ∀ k, k < 7 → (nI S >>> (nI k &&& 31)) &&& nI 1 = (if S.testBit k = true then nI 1 else nI 0) := by decide +kernel
section CRO
variable {d : Nat} {σ : mSg} {m : Nat → Int32} {Q : mPst} {n nc ns nd : Nat}
theorem c_leastUpTo {S k : Nat} (hB : BD m n nc ns nd) (hR : RR σ m) (hS : S < 2 ^ n) (hk : k < n) (hb : S.testBit k = true) (ht : ∀ T k, T < S → k < n → T.testBit k = true → σ 2 (7 * T + k) = nI (mUp m n T k)) (hq : Q (.inl (some (.int (nI (mUp m n S k))))) sh_6_7 σ) : mD (d + 3) 294 [.ref 0, .ref 4, .int (nI S), .int (nI k)] sh_6_7 σ Q := by
  have hn := hB.1.2
  have h2n : 2 ^ n ≤ 128 := Nat.pow_le_pow_right (by omega) hn
  have p2 := Nat.two_pow_pos k
  have p3 := Nat.ge_two_pow_of_testBit hb
  have eT := bit_out S (by omega) k (by omega) hb
  generalize hT : S - 2 ^ k = T at eT
  refine ⟨rfl, fun X hX => ?_⟩
  refine hX _ _ _ _ _ _ _ ?_
  refine b_ne eT (b := 0) rfl (by omega) (by omega) (fun h0 => ?_) (fun h0 => ?_)
  · have hup : oM (nI 9999) (mnO (fun j => T.testBit j) (fun j => mUp m n T j + dN m j k) n) = nI (mUp m n S k) := by
      unfold mUp
      rw [sUp, hT, dif_neg h0]
      obtain ⟨i, hi, hb⟩ := bit_ex n (by omega) T (by omega) (by omega)
      exact oM_get hi hb
    have lj : ∀ q j W, n - j = q → j ≤ n → W = σ → X 29 [some (.ref 0), some (.ref 4), none, some (.int (nI k)), some (.int (nI T)), some (.int (oM (nI 9999) (mnO (fun j => T.testBit j) (fun j => mUp m n T j + dN m j k) j))), some (.int (nI j))] [] sh_6_7 W 0 0 := by
      intro q
      induction q with
      | zero =>
        intro j W hj hj2 hW
        subst hW
        have e : W 4 7 = nI n := (hR.g rf0.1).trans hB.1.1
        have ej : j = n := by omega
        rw [ej]
        refine hX _ _ _ _ _ _ _ ?_
        refine b_ge rfl e (by omega) (by omega) (fun _ => ?_) (fun h => by omega)
        refine hX _ _ _ _ _ _ _ ?_
        exact qi hup.symm hq
      | succ q ih =>
        intro j W hj hj2 hW
        have e : W 4 7 = nI n := by rw [hW]; exact (hR.g rf0.1).trans hB.1.1
        have e7 : nI T * nI 7 + nI j = nI (7 * T + j) := by rw [nI_mul, nI_add, Nat.mul_comm]
        have nxj : ∀ W x, W = σ → x = oM (nI 9999) (mnO (fun j => T.testBit j) (fun j => mUp m n T j + dN m j k) (j + 1)) → X 76 [some (.ref 0), some (.ref 4), none, some (.int (nI k)), some (.int (nI T)), some (.int x), some (.int (nI j))] [] sh_6_7 W 0 0 := by
          intro W x hW hx
          refine hX _ _ _ _ _ _ _ ?_
          have h9 := ih (j + 1) W (by omega) (by omega) hW
          rw [← hx, ← nI_1 j] at h9
          exact h9
        have hbj := bit_sh T (by omega) j (by omega)
        refine hX _ _ _ _ _ _ _ ?_
        refine b_ge rfl e (by omega) (by omega) (fun h => by omega) (fun _ => ?_)
        by_cases hbt : T.testBit j = true
        · rw [if_pos hbt] at hbj
          refine ⟨fun z => absurd (hbj.symm.trans z) (by decide +kernel), fun _ => ?_⟩
          refine ⟨vin e7 (by omega) (by omega), ?_⟩
          refine c_distance (s := some j) (o := some k) (fun q h => by cases h; omega) (fun q h => by cases h; omega) (rs4 hW hR) ?_
          refine nxj _ _ (rn4 hW) ?_
          show sMin _ (W 2 (nI T * nI 7 + nI j).toNatClampNeg + sWay m (some j) (some k)) = _
          rw [clN e7 (by omega), hW, ht T j (by omega) (by omega) hbt, (dN_ok hB (by omega) hk).1, nI_add]
          refine oM_step (P := fun j => T.testBit j) (f := fun j => mUp m n T j + dN m j k) hbt (by omega) (fun i hi hp => ?_) rfl
          have b3 := mUp_le hB (show i < n by omega) (show T < 128 by omega) hp
          have b4 := (dN_ok hB (show i < n by omega) (show k < n by omega)).2
          show mUp m n T i + dN m i k < _
          omega
        · rw [if_neg hbt] at hbj
          refine ⟨fun _ => ?_, fun z => absurd hbj z⟩
          refine nxj _ _ hW ?_
          rw [mnO_s, if_neg hbt]
    refine hX _ _ _ _ _ _ _ ?_
    have h9 := lj _ 0 σ rfl (by omega) rfl
    rw [← eT] at h9
    exact h9
  · refine c_distance (s := none) (o := some k) (fun q h => by cases h) (fun q h => by cases h; omega) (rs4 rfl hR) ?_
    have e : nI (mUp m n S k) = sWay m none (some k) := by
      unfold mUp
      rw [sUp, hT, dif_pos h0]
      exact (zN_ok hB hk).1.symm
    exact qi e (qw (Q := Q) (rn4 rfl) hq)
theorem AC.p2 {W : mSg} {S i : Nat} {v : Int32} (hn : n ≤ 7) (h : AC σ m n S W) (hi : 7 * S ≤ i) : AC σ m n S (mput W 2 i v) := ⟨fun c h1 h2 => by rw [mput_ne h2]; exact h.1 c h1 h2, fun T hT => by rw [mput_ne (by omega)]; exact h.2.1 T hT, fun T k hT hk hb => by rw [mput_eq, upd_off (by omega)]; exact h.2.2 T k hT hk hb⟩
theorem AC.rr {W : mSg} {S : Nat} (h : AC σ m n S W) (hR : RR σ m) : RR W m := RS.congr hR (fun c hc => by
  show W (mgl [(4, 9)] c) = σ (mgl [(4, 9)] c)
  rw [mgl9 hc]
  exact h.1 _ (by omega) (by omega))
/-- what was measured, if it was -/
def RCh (σ : mSg) (m : Nat → Int32) (n : Nat) : Prop := σ 1 0 = nI 0 ∧ (σ 0 3 = nI 0 ∨ (σ 0 3 = nI 1 ∧ AC σ m n (2 ^ n) σ))
/-- behind a measuring -/
def RMe (σ : mSg) (m : Nat → Int32) (n : Nat) (σ' : mSg) : Prop := (∀ c, c ≠ 0 → c ≠ 1 → c ≠ 2 → σ' c = σ c) ∧ σ' 0 3 = nI 1 ∧ (∀ T, T < 2 ^ n → σ' 1 T = nI (mWh m n T)) ∧ ∀ T k, T < 2 ^ n → k < n → T.testBit k = true → σ' 2 (7 * T + k) = nI (mUp m n T k)
set_option maxHeartbeats 4000000 in
theorem c_measure (hB : BD m n nc ns nd) (hR : RR σ m) (hc : RCh σ m n) (hq : ∀ σ', RMe σ m n σ' → Q (.inl none) sh_6_7 σ') : mD (d + 4) 293 [.ref 0, .ref 4] sh_6_7 σ Q := by
  have hn := hB.1.2
  have h2n : 2 ^ n ≤ 128 := Nat.pow_le_pow_right (by omega) hn
  obtain ⟨h0, hc⟩ := hc
  refine ⟨rfl, fun X hX => ?_⟩
  have loop : ∀ r S W, 2 ^ n - S = r → S ≤ 2 ^ n → 0 < S → AC σ m n S W → X 10 [some (.ref 0), some (.ref 4), some (.int (nI S)), none, none, none] [] sh_6_7 W 0 0 := by
    intro r
    induction r with
    | zero =>
      intro S W hr hS hS0 hW
      have eS : S = 2 ^ n := by omega
      have e3 : W 4 7 = nI n := ((hW.rr hR).g rf0.1).trans hB.1.1
      have e4 : nI 1 <<< (W 4 7 &&& 31) = nI (2 ^ n) := by rw [e3]; exact bit_one n (by omega)
      refine hX _ _ _ _ _ _ _ ?_
      refine b_ge rfl e4 (by omega) (by omega) (fun _ => ?_) (fun h => by omega)
      refine hX _ _ _ _ _ _ _ ?_
      rw [eS] at hW
      refine ⟨Or.inr rfl, ?_⟩
      exact hq (mput W 0 3 (nI 1)) ⟨fun c a b e => (mput_ne a).trans (hW.1 c b e), rfl, hW.2.1, hW.2.2⟩
    | succ r ih =>
      intro S W hr hS hS0 hW
      have hS2 : S < 128 := by omega
      have e3 : W 4 7 = nI n := ((hW.rr hR).g rf0.1).trans hB.1.1
      have e4 : nI 1 <<< (W 4 7 &&& 31) = nI (2 ^ n) := by rw [e3]; exact bit_one n (by omega)
      have lk : ∀ t k W, n - k = t → k ≤ n → AC σ m n S W → (∀ i, i < k → S.testBit i = true → W 2 (7 * S + i) = nI (mUp m n S i)) → X 27 [some (.ref 0), some (.ref 4), some (.int (nI S)), some (.int (oM (nI 9999) (mnO (fun k => S.testBit k) (fun k => mUp m n S k + zN m k) k))), some (.int (nI k)), none] [] sh_6_7 W 0 0 := by
        intro t
        induction t with
        | zero =>
          intro k W ht hk hW h7
          have ek : k = n := by omega
          rw [ek]
          rw [ek] at h7
          have e3 : W 4 7 = nI n := ((hW.rr hR).g rf0.1).trans hB.1.1
          obtain ⟨i, hi, hb⟩ := bit_ex n (by omega) S (by omega) hS0
          have eo : oM (nI 9999) (mnO (fun k => S.testBit k) (fun k => mUp m n S k + zN m k) n) = nI (mWh m n S) := oM_get hi hb
          rw [eo]
          refine hX _ _ _ _ _ _ _ ?_
          refine b_ge rfl e3 (by omega) (by omega) (fun _ => ?_) (fun h => by omega)
          refine hX _ _ _ _ _ _ _ ?_
          refine ⟨vp_in_nI (n := S) (by omega) (by omega), ?_⟩
          have h9 := ih (S + 1) (mput W 1 S (nI (mWh m n S))) (by omega) (by omega) (by omega) ⟨fun c a b => (mput_ne a).trans (hW.1 c a b), fun T hT => ?_, fun T i hT hi hb => ?_⟩
          · rw [← nI_1 S, show mput W 1 S (nI (mWh m n S)) = mput W 1 (nI S).toNatClampNeg (nI (mWh m n S)) by rw [nI_clamp (by omega)]] at h9
            exact h9
          · rw [mput_eq]
            by_cases eT : T = S
            · rw [eT]
              exact if_pos rfl
            · rw [upd_off eT]
              exact hW.2.1 T (by omega)
          · rw [mput_ne (by omega)]
            by_cases eT : T = S
            · rw [eT] at hb ⊢
              exact h7 i hi hb
            · exact hW.2.2 T i (by omega) hi hb
        | succ t ih2 =>
          intro k W ht hk hW h7
          have e3 : W 4 7 = nI n := ((hW.rr hR).g rf0.1).trans hB.1.1
          have e7 : nI S * nI 7 + nI k = nI (7 * S + k) := by rw [nI_mul, nI_add, Nat.mul_comm]
          have nxt : ∀ W x, AC σ m n S W → x = oM (nI 9999) (mnO (fun k => S.testBit k) (fun k => mUp m n S k + zN m k) (k + 1)) → (∀ i, i < k + 1 → S.testBit i = true → W 2 (7 * S + i) = nI (mUp m n S i)) → X 84 [some (.ref 0), some (.ref 4), some (.int (nI S)), some (.int x), some (.int (nI k)), none] [] sh_6_7 W 0 0 := by
            intro W x hW hx h7
            refine hX _ _ _ _ _ _ _ ?_
            have h9 := ih2 (k + 1) W (by omega) (by omega) hW h7
            rw [← hx, ← nI_1 k] at h9
            exact h9
          have hbk := bit_sh S hS2 k (by omega)
          refine hX _ _ _ _ _ _ _ ?_
          refine b_ge rfl e3 (by omega) (by omega) (fun h => by omega) (fun _ => ?_)
          by_cases hb : S.testBit k = true
          · rw [if_pos hb] at hbk
            refine ⟨fun z => absurd (hbk.symm.trans z) (by decide +kernel), fun _ => ?_⟩
            refine c_leastUpTo hB (hW.rr hR) (by omega) (by omega) hb hW.2.2 ?_
            refine ⟨vin e7 (by omega) (by omega), ?_⟩
            have a1 : AC σ m n S (mput W 2 (nI S * nI 7 + nI k).toNatClampNeg (nI (mUp m n S k))) := by rw [clN e7 (by omega)]; exact hW.p2 hn (by omega)
            have fin : ∀ W2 x, W2 = mput W 2 (nI S * nI 7 + nI k).toNatClampNeg (nI (mUp m n S k)) → x = oM (nI 9999) (mnO (fun k => S.testBit k) (fun k => mUp m n S k + zN m k) (k + 1)) → X 84 [some (.ref 0), some (.ref 4), some (.int (nI S)), some (.int x), some (.int (nI k)), none] [] sh_6_7 W2 0 0 := by
              intro W2 x hW2 hx
              subst hW2
              refine nxt _ _ a1 hx (fun i hi hp => ?_)
              show upd (W 2) (nI S * nI 7 + nI k).toNatClampNeg (nI (mUp m n S k)) (7 * S + i) = _
              rw [clN e7 (by omega)]
              by_cases ei : i = k
              · rw [ei]
                exact if_pos rfl
              · rw [upd_off (by omega)]
                exact h7 i (by omega) hp
            refine c_distance (s := some k) (o := none) (fun q h => by cases h; omega) (fun q h => by cases h) (a1.rr hR) ?_
            refine fin _ _ (rn4 rfl) ?_
            show sMin _ (nI (mUp m n S k) + sWay m (some k) none) = _
            rw [zN_ok2 hB (by omega), nI_add]
            refine oM_step (P := fun k => S.testBit k) (f := fun k => mUp m n S k + zN m k) hb (by omega) (fun i hi hp => ?_) rfl
            have b3 := mUp_le hB (show i < n by omega) hS2 hp
            have b4 := (zN_ok hB (show i < n by omega)).2
            show mUp m n S i + zN m i < _
            omega
          · rw [if_neg hb] at hbk
            refine ⟨fun _ => ?_, fun z => absurd hbk z⟩
            refine nxt _ _ hW ?_ (fun i hi hp => h7 i (by have : i ≠ k := fun z => hb (z ▸ hp); omega) hp)
            rw [mnO_s, if_neg hb]
      refine hX _ _ _ _ _ _ _ ?_
      refine b_ge rfl e4 (by omega) (by omega) (fun h => by omega) (fun _ => ?_)
      exact lk _ 0 W rfl (by omega) hW (fun i hi => absurd hi (by omega))
  refine hX _ _ _ _ _ _ _ ?_
  rcases hc with h | ⟨h, hA⟩
  · refine ⟨fun _ => ?_, fun z => absurd h z⟩
    refine hX _ _ _ _ _ _ _ ?_
    refine loop _ 1 σ rfl (Nat.one_le_two_pow) (by omega) ⟨fun _ _ _ => rfl, fun T hT => ?_, fun T k hT hk hb => ?_⟩
    · have : T = 0 := by omega
      subst this
      rw [mWh0]
      exact h0
    · have : T = 0 := by omega
      subst this
      rw [Nat.zero_testBit] at hb
      cases hb
  · refine ⟨fun z => absurd (h.symm.trans z) (by decide +kernel), fun _ => ?_⟩
    exact hq _ ⟨fun _ _ _ _ => rfl, h, hA.2.1, hA.2.2⟩
end CRO
