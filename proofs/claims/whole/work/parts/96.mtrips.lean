/-! THE MODEL: the fewest rounds -/
def TM (σ : mSg) (ok : Nat → Bool) (K : Nat) (W : mSg) : Prop := (∀ c, c ≠ 9 → W c = σ c) ∧ ∀ T, T < K → W 9 T = oM (nI 2000000000) (tB ok K T)
theorem TM.put {σ W : mSg} {ok : Nat → Bool} {K : Nat} {v : Int32} (h : TM σ ok K W) : TM σ ok K (mput W 9 K v) := ⟨fun c hc => by rw [mput_ne hc]; exact h.1 c hc, fun T hT => by rw [mput_eq, upd_off (by omega)]; exact h.2 T hT⟩
theorem oM_nf {k : Nat} (h : k < 2000000000) : ¬ oM (nI 2000000000) (some k) = nI 2000000000 := by
  intro e
  have e : nI k = nI 2000000000 := e
  have := congrArg Int32.toInt e
  rw [nI_toInt (by omega), nI_toInt (by omega)] at this
  omega
theorem sWS_or0 {m : Nat → Int32} {k : Nat} (h : ¬ nI 0 < m (22 + 9 * k)) : sWS m (k + 1) = sWS m k ||| nI 0 := by
  rw [sWS, if_neg h]
  refine b_ext (fun i hi => ?_)
  rw [b_or, show nI 0 = 0 from rfl, b_0, Bool.or_false]
section MTR
variable {d : Nat} {σ : mSg} {Q : mPst} {n nc ns nd : Nat}
theorem g_trips {p : Int32} (hB : BD (σ 1) n nc ns nd) (q1 : ∀ k, k ≤ 99 → p = nI k → ∀ σ', MX σ (σ 1) (nI 0) σ' → Q (.inl (some (.int (sTr (σ 1) n k)))) sh_10 σ') (q0 : (¬ ∃ k, k < 100 ∧ p = nI k) → ∀ σ', MX σ (σ 1) (nI 1) σ' → Q (.inl (some (.int (nI 0)))) sh_10 σ') : mD (d + 4) 179 [.ref 0, .int p] sh_10 σ Q := by
  have hn := hB.1.2
  have h2n : 2 ^ n ≤ 128 := Nat.pow_le_pow_right (by omega) hn
  refine ⟨rfl, fun X hX => ?_⟩
  refine hX _ _ _ _ _ _ _ ?_
  refine g_isIn (fun h => ?_) (fun h => ?_)
  rotate_left
  · have h : ¬ sIn p (nI 0) (nI 99) := h
    rw [sIn0_iff (by omega)] at h
    refine ⟨fun z => absurd rfl z, fun _ => ?_⟩
    refine hX _ _ _ _ _ _ _ ?_
    refine ⟨fun z => absurd (show nI 1 ≤ 0 from z) (by decide +kernel), fun _ => ?_⟩
    exact q0 h _ MX.th
  have h : sIn p (nI 0) (nI 99) := h
  rw [sIn0_iff (by omega)] at h
  obtain ⟨far, hfar, rfl⟩ := h
  have hq := q1 far (by omega) rfl
  clear q1 q0
  refine ⟨fun _ => ?_, fun z => absurd z (by decide +kernel)⟩
  refine hX _ _ _ _ _ _ _ ?_
  refine hX _ _ _ _ _ _ _ ?_
  refine ⟨fun _ => ?_, fun z => absurd (show nI 0 ≤ 0 from by decide +kernel) z⟩
  have hBt : BD (mput σ 0 0 (nI 0) 1) n nc ns nd := hB
  refine hX _ _ _ _ _ _ _ ?_
  refine g_allLoops hBt (fun σ1 h1 => ?_)
  have e1 : σ1 1 = σ 1 := h1.1 1 (by omega) (by omega)
  have hB1 : BD (σ1 1) n nc ns nd := by rw [e1]; exact hB
  have hl := wsN_lt (m := σ 1) n
  have eV := sWS_nI (m := σ 1) n hn
  unfold sTr at hq
  generalize wsN (σ 1) n = V at hl eV hq
  generalize hok : okT (σ 1) n far = ok at hq
  have inner : ∀ f K p a W, p ≤ f → K < 2 ^ n → 0 < K → p &&& K = p → TM σ1 ok K W → W 9 K = oM (nI 2000000000) a → (∀ v, a = some v → v ≤ K + 1) → (∀ W2, TM σ1 ok K W2 → W2 9 K = oM (nI 2000000000) (tF ok (tB ok K) K f p a) → X 176 [some (.ref 0), some (.int (nI far)), some (.int (nI V)), some (.int (nI K)), none] [] sh_10 W2 0 0) → X 104 [some (.ref 0), some (.int (nI far)), some (.int (nI V)), some (.int (nI K)), some (.int (nI p))] [] sh_10 W 0 0 := by
    intro f
    induction f with
    | zero =>
      intro K p a W hp hK hK0 hpk hW hWK ha hk
      have p0 : p = 0 := by omega
      subst p0
      refine hX _ _ _ _ _ _ _ ?_
      refine b_le rfl (b := 0) rfl (by omega) (by omega) (fun _ => ?_) (fun h => by omega)
      exact hk W hW hWK
    | succ f ih =>
      intro K p a W hp hK hK0 hpk hW hWK ha hk
      by_cases p0 : p = 0
      · subst p0
        refine hX _ _ _ _ _ _ _ ?_
        refine b_le rfl (b := 0) rfl (by omega) (by omega) (fun _ => ?_) (fun h => by omega)
        rw [tF_0] at hk
        exact hk W hW hWK
      · have hpK : p ≤ K := by rw [← hpk]; exact Nat.and_le_right
        obtain ⟨x1, x2, x3⟩ := bit_x3 K (by omega) p (by omega) hpk p0
        have x4 := bit_x1 K (by omega) p (by omega) hpk
        have hgo : W 9 (K ^^^ p) = oM (nI 2000000000) (tB ok K (K ^^^ p)) := hW.2 _ x1
        have hgle := fun v => tB_le (ok := ok) K (K ^^^ p) v
        have ha' := tA_le (ok := ok) (g := tB ok K) (K := K) (p := p) (fun T v => tB_le K T v) ha
        have next : ∀ W2, TM σ1 ok K W2 → W2 9 K = oM (nI 2000000000) (tA ok (tB ok K) K p a) → X 165 [some (.ref 0), some (.int (nI far)), some (.int (nI V)), some (.int (nI K)), some (.int (nI p))] [] sh_10 W2 0 0 := by
          intro W2 hW2 hK2
          have h9 := ih K ((p - 1) &&& K) (tA ok (tB ok K) K p a) W2 (by have := and_lt (K := K) p0; omega) hK hK0 x3 hW2 hK2 ha' (by rw [← tF_s p0]; exact hk)
          refine hX _ _ _ _ _ _ _ ?_
          rw [← x2] at h9
          exact h9
        have hokp : ok p = decide (mWh (σ 1) n p ≤ far) := by rw [← hok]; rfl
        have lw : W 8 (nI p).toNatClampNeg = nI (mWh (σ 1) n p) := by rw [nI_clamp (by omega), hW.1 8 (by omega)]; exact h1.2.1 p (by omega)
        have bp := mWh_le hB (show p < 2 ^ n by omega)
        have ev : vp_in (nI K &&& (nI p ^^^ -(nI 1))) 128 := vin x4 (by omega) (by omega)
        have eg : W 9 (nI K &&& (nI p ^^^ -(nI 1))).toNatClampNeg = oM (nI 2000000000) (tB ok K (K ^^^ p)) := by rw [clN x4 (by omega)]; exact hgo
        have eK : W 9 (nI K).toNatClampNeg = oM (nI 2000000000) a := by rw [nI_clamp (by omega)]; exact hWK
        refine hX _ _ _ _ _ _ _ ?_
        refine b_le rfl (b := 0) rfl (by omega) (by omega) (fun h => by omega) (fun _ => ?_)
        refine ⟨vp_in_nI (by omega) (by omega), ?_⟩
        refine b_gt lw rfl (by omega) (by omega) (fun h => next W hW ?_) (fun h => ?_)
        · have e0 : ok p = false := by rw [hokp]; exact decide_eq_false (by omega)
          rw [hWK]
          unfold tA
          rw [e0]
          split
          · rfl
          · rfl
        have e1 : ok p = true := by rw [hokp]; exact decide_eq_true h
        refine ⟨ev, ?_⟩
        refine ⟨fun h2 => next W hW ?_, fun h2 => ?_⟩
        · have h2 : W 9 (nI K &&& (nI p ^^^ -(nI 1))).toNatClampNeg = nI 2000000000 := h2
          rw [eg] at h2
          rw [hWK]
          unfold tA
          split
          · rfl
          · rename_i v hv
            rw [hv] at h2
            have := hgle v hv
            exact absurd h2 (oM_nf (by omega))
        · have h2 : ¬ W 9 (nI K &&& (nI p ^^^ -(nI 1))).toNatClampNeg = nI 2000000000 := h2
          rw [eg] at h2
          cases hv : tB ok K (K ^^^ p) with
          | none => rw [hv] at h2; exact absurd rfl h2
          | some v =>
            have hvle := hgle v hv
            rw [hv] at eg
            have eg : W 9 (nI K &&& (nI p ^^^ -(nI 1))).toNatClampNeg = nI v := eg
            have eg1 : nI 1 + W 9 (nI K &&& (nI p ^^^ -(nI 1))).toNatClampNeg = nI (v + 1) := by rw [eg, nI_add, Nat.add_comm]
            have hA : tA ok (tB ok K) K p a = oS v a := tA_s hv e1
            have hm : sMin (W 9 (nI K).toNatClampNeg) (nI 1 + W 9 (nI K &&& (nI p ^^^ -(nI 1))).toNatClampNeg) = oM (nI 2000000000) (tA ok (tB ok K) K p a) := by
              rw [eK, eg1, hA, oM_min (by omega) (by omega) (fun y hy => by have := ha y hy; omega)]
              cases a <;> rfl
            refine ⟨vp_in_nI (by omega) (by omega), ev, ?_⟩
            refine g_lesser ?_
            refine ⟨vp_in_nI (by omega) (by omega), ?_⟩
            refine next _ (by rw [nI_clamp (by omega)]; exact hW.put) ?_
            rw [show (nI K).toNatClampNeg = K from nI_clamp (by omega), mput_eq, upd_at]
            rw [show (nI K).toNatClampNeg = K from nI_clamp (by omega)] at hm
            exact hm
  have loop : ∀ r K W, 2 ^ n - K = r → K ≤ 2 ^ n → 0 < K → TM σ1 ok K W → X 80 [some (.ref 0), some (.int (nI far)), some (.int (nI V)), some (.int (nI K)), none] [] sh_10 W 0 0 := by
    intro r
    induction r with
    | zero =>
      intro K W hr hK hK0 hW
      have eK : K = 2 ^ n := by omega
      have eW : W 1 = σ1 1 := hW.1 1 (by omega)
      have e4 : nI 1 <<< (W 1 3 &&& 31) = nI (2 ^ n) := by rw [eW, hB1.1.1]; exact bit_one n (by omega)
      have hMX : MX σ (σ 1) (nI 0) W := by
        have c0 : W 0 = mput σ 0 0 (nI 0) 0 := (hW.1 0 (by omega)).trans (h1.1 0 (by omega) (by omega))
        exact ⟨eW.trans e1, (hW.1 2 (by omega)).trans (h1.1 2 (by omega) (by omega)), (hW.1 4 (by omega)).trans (h1.1 4 (by omega) (by omega)), (hW.1 5 (by omega)).trans (h1.1 5 (by omega) (by omega)), congrFun c0 0, congrFun c0 3, congrFun c0 6, congrFun c0 8, congrFun c0 12, k15.e (congrFun c0 15)⟩
      have h9 := hq W hMX
      rw [eK] at hW ⊢
      have eV2 : W 9 (nI V).toNatClampNeg = oM (nI 2000000000) (tB ok (2 ^ n) V) := by rw [nI_clamp (by omega)]; exact hW.2 V hl
      have hle := fun v => tB_le (ok := ok) (2 ^ n) V v
      refine hX _ _ _ _ _ _ _ ?_
      refine ⟨vp_in_nI (n := 3) (by omega) (by omega), ?_⟩
      refine b_ge rfl e4 (by omega) (by omega) (fun _ => ?_) (fun h => by omega)
      refine hX _ _ _ _ _ _ _ ?_
      refine ⟨vp_in_nI (by omega) (by omega), ?_⟩
      refine ⟨fun h => ?_, fun h => ?_⟩
      · have h : ¬ W 9 (nI V).toNatClampNeg = nI 2000000000 := h
        refine hX _ _ _ _ _ _ _ ?_
        refine ⟨vp_in_nI (by omega) (by omega), ?_⟩
        refine hX _ _ _ _ _ _ _ ?_
        refine qi ?_ h9
        show _ = W 9 (nI V).toNatClampNeg
        rw [eV2] at h ⊢
        cases hv : tB ok (2 ^ n) V with
        | none => rw [hv] at h; exact absurd rfl h
        | some v => rfl
      · have h : W 9 (nI V).toNatClampNeg = nI 2000000000 := h
        refine hX _ _ _ _ _ _ _ ?_
        refine qi ?_ h9
        rw [eV2] at h
        cases hv : tB ok (2 ^ n) V with
        | none => rfl
        | some v => rw [hv] at h; have := hle v hv; exact absurd h (oM_nf (by omega))
    | succ r ih =>
      intro K W hr hK hK0 hW
      have eW : W 1 = σ1 1 := hW.1 1 (by omega)
      have e4 : nI 1 <<< (W 1 3 &&& 31) = nI (2 ^ n) := by rw [eW, hB1.1.1]; exact bit_one n (by omega)
      refine hX _ _ _ _ _ _ _ ?_
      refine ⟨vp_in_nI (n := 3) (by omega) (by omega), ?_⟩
      refine b_ge rfl e4 (by omega) (by omega) (fun h => by omega) (fun _ => ?_)
      refine ⟨vp_in_nI (by omega) (by omega), ?_⟩
      refine inner K K K none _ (Nat.le_refl _) (by omega) hK0 (Nat.and_self K) (by rw [nI_clamp (by omega)]; exact hW.put) (by rw [nI_clamp (by omega), mput_eq, upd_at]; rfl) (fun v h => by cases h) (fun W2 h2 h3 => ?_)
      refine hX _ _ _ _ _ _ _ ?_
      have h9 := ih (K + 1) W2 (by omega) (by omega) (by omega) ⟨h2.1, fun T hT => ?_⟩
      · rw [← nI_1 K] at h9
        exact h9
      · by_cases e : T = K
        · subst e
          rw [tB_self (by omega)]; exact h3
        · rw [tB_low (by omega)]; exact h2.2 T (by omega)
  have first : ∀ j k, n - k = j → k ≤ n → X 36 [some (.ref 0), some (.int (nI far)), some (.int (sWS (σ 1) k)), some (.int (nI k)), none] [] sh_10 σ1 0 0 := by
    intro j
    induction j with
    | zero =>
      intro k hj hk
      have ek : k = n := by omega
      subst ek
      refine hX _ _ _ _ _ _ _ ?_
      refine ⟨vp_in_nI (n := 3) (by omega) (by omega), ?_⟩
      refine b_ge rfl hB1.1.1 (by omega) (by omega) (fun _ => ?_) (fun h => by omega)
      refine hX _ _ _ _ _ _ _ ?_
      refine ⟨vp_in_nI (n := 0) (by omega) (by omega), ?_⟩
      rw [eV]
      refine loop _ 1 _ rfl (Nat.one_le_two_pow) (by omega) ⟨fun c hc => mput_ne hc, fun T hT => ?_⟩
      have e : T = 0 := by omega
      subst e
      rfl
    | succ j ih =>
      intro k hj hk
      have h9 := ih (k + 1) (by omega) (by omega)
      have ew : σ1 1 (20 + 9 * k + 2) = σ 1 (22 + 9 * k) := by rw [e1, show 20 + 9 * k + 2 = 22 + 9 * k by omega]
      refine hX _ _ _ _ _ _ _ ?_
      refine ⟨vp_in_nI (n := 3) (by omega) (by omega), ?_⟩
      refine b_ge rfl hB1.1.1 (by omega) (by omega) (fun h => by omega) (fun _ => ?_)
      refine g_of (w := 2) (by omega) (by omega) ?_
      refine ⟨fun h => ?_, fun h => ?_⟩
      · have h : σ1 1 (20 + 9 * k + 2) ≤ 0 := h
        rw [ew] at h
        rw [sWS_or0 (Int32.not_lt.mpr h), ← nI_1 k] at h9
        refine hX _ _ _ _ _ _ _ ?_
        refine hX _ _ _ _ _ _ _ ?_
        exact h9
      · have h : ¬ σ1 1 (20 + 9 * k + 2) ≤ 0 := h
        rw [ew] at h
        rw [sWS, if_pos (show nI 0 < σ 1 (22 + 9 * k) from Int32.not_le.mp h), ← nI_1 k] at h9
        refine hX _ _ _ _ _ _ _ ?_
        exact h9
  exact first _ 0 rfl (Nat.zero_le _)
end MTR
