/-! THE CLASS: the fewest rounds -/
def okT (m : Nat → Int32) (n far : Nat) (p : Nat) : Bool := decide (mWh m n p ≤ far)
def sTr (m : Nat → Int32) (n far : Nat) : Int32 := oM (-(nI 1)) (tB (okT m n far) (2 ^ n) (wsN m n))
/-- the class's table, so far, and the place that is being filled -/
def TC (σ : mSg) (ok : Nat → Bool) (K : Nat) (W : mSg) : Prop := (∀ c, c ≠ 3 → W c = σ c) ∧ ∀ T, T < K → W 3 T = oM (-(nI 1)) (tB ok K T)
theorem TC.rr {σ W : mSg} {m : Nat → Int32} {ok : Nat → Bool} {K : Nat} (h : TC σ ok K W) (hR : RR σ m) : RR W m := RS.congr hR (fun c hc => by
  show W (mgl [(4, 9)] c) = σ (mgl [(4, 9)] c)
  rw [mgl9 hc]
  exact h.1 _ (by omega))
theorem TC.put {σ W : mSg} {ok : Nat → Bool} {K : Nat} {v : Int32} (h : TC σ ok K W) : TC σ ok K (mput W 3 K v) := ⟨fun c hc => by rw [mput_ne hc]; exact h.1 c hc, fun T hT => by rw [mput_eq, upd_off (by omega)]; exact h.2 T hT⟩
theorem oM_ne {k : Nat} (h : k < 2 ^ 31) : ¬ oM (-(nI 1)) (some k) = -(nI 1) := oN_ne h
section CTR
variable {d : Nat} {σ : mSg} {m : Nat → Int32} {Q : mPst} {n nc ns nd : Nat}
theorem c_fewestSets {far : Nat} (hf : far ≤ 99) (hB : BD m n nc ns nd) (hR : RR σ m) (hc : RCh σ m n) (hq : ∀ σ', (∀ c, c ≠ 0 → c ≠ 1 → c ≠ 2 → c ≠ 3 → σ' c = σ c) → σ' 0 3 = nI 1 → (∀ T, T < 2 ^ n → σ' 1 T = nI (mWh m n T)) → (∀ T k, T < 2 ^ n → k < n → T.testBit k = true → σ' 2 (7 * T + k) = nI (mUp m n T k)) → Q (.inl (some (.int (sTr m n far)))) sh_6_7 σ') : mD (d + 5) 292 [.ref 0, .ref 4, .int (nI far)] sh_6_7 σ Q := by
  have hn := hB.1.2
  have h2n : 2 ^ n ≤ 128 := Nat.pow_le_pow_right (by omega) hn
  refine ⟨rfl, fun X hX => ?_⟩
  refine hX _ _ _ _ _ _ _ ?_
  refine c_measure hB hR hc (fun σ1 h1 => ?_)
  have hR1 : RR σ1 m := RS.congr hR (fun c hc => by
    show σ1 (mgl [(4, 9)] c) = σ (mgl [(4, 9)] c)
    rw [mgl9 hc]
    exact h1.1 _ (by omega) (by omega) (by omega))
  have hl := wsN_lt (m := m) n
  have eV := sWS_nI (m := m) n hn
  unfold sTr at hq
  generalize wsN m n = V at hl eV hq
  generalize hok : okT m n far = ok at hq
  have inner : ∀ f K p a W, p ≤ f → K ≤ V → 0 < K → p &&& K = p → TC σ1 ok K W → W 3 K = oM (-(nI 1)) a → (∀ v, a = some v → v ≤ K + 1) → (∀ W2, TC σ1 ok K W2 → W2 3 K = oM (-(nI 1)) (tF ok (tB ok K) K f p a) → X 132 [some (.ref 0), none, some (.int (nI far)), some (.int (nI V)), some (.int (nI K)), none, none, none] [] sh_6_7 W2 0 0) → X 38 [some (.ref 0), none, some (.int (nI far)), some (.int (nI V)), some (.int (nI K)), some (.int (nI p)), none, none] [] sh_6_7 W 0 0 := by
    intro f
    induction f with
    | zero =>
      intro K p a W hp hK hK0 hpk hW hWK ha hk
      have p0 : p = 0 := by omega
      subst p0
      refine hX _ _ _ _ _ _ _ ?_
      refine b_le rfl (b := 0) rfl (by omega) (by omega) (fun _ => ?_) (fun h => by omega)
      exact hk W hW hWK
    | succ f ih =>
      intro K p a W hp hK hK0 hpk hW hWK ha hk
      by_cases p0 : p = 0
      · subst p0
        refine hX _ _ _ _ _ _ _ ?_
        refine b_le rfl (b := 0) rfl (by omega) (by omega) (fun _ => ?_) (fun h => by omega)
        rw [tF_0] at hk
        exact hk W hW hWK
      · have hpK : p ≤ K := by rw [← hpk]; exact Nat.and_le_right
        obtain ⟨x1, x2, x3⟩ := bit_x3 K (by omega) p (by omega) hpk p0
        have x4 := bit_x2 K (by omega) p (by omega)
        have hgo : W 3 (K ^^^ p) = oM (-(nI 1)) (tB ok K (K ^^^ p)) := hW.2 _ x1
        have hgle := fun v => tB_le (ok := ok) K (K ^^^ p) v
        have ha' := tA_le (ok := ok) (g := tB ok K) (K := K) (p := p) (fun T v => tB_le K T v) ha
        have next : ∀ W2, TC σ1 ok K W2 → W2 3 K = oM (-(nI 1)) (tA ok (tB ok K) K p a) → X 120 [some (.ref 0), none, some (.int (nI far)), some (.int (nI V)), some (.int (nI K)), some (.int (nI p)), none, none] [] sh_6_7 W2 0 0 := by
          intro W2 hW2 hK2
          have h9 := ih K ((p - 1) &&& K) (tA ok (tB ok K) K p a) W2 (by have := and_lt (K := K) p0; omega) hK hK0 x3 hW2 hK2 ha' (by rw [← tF_s p0]; exact hk)
          refine hX _ _ _ _ _ _ _ ?_
          rw [← x2] at h9
          exact h9
        have hokp : ok p = decide (mWh m n p ≤ far) := by rw [← hok]; rfl
        have lw : W 1 (nI p).toNatClampNeg = nI (mWh m n p) := by rw [nI_clamp (by omega), hW.1 1 (by omega)]; exact h1.2.2.1 p (by omega)
        have bp := mWh_le hB (show p < 2 ^ n by omega)
        have ev : vp_in (nI K ^^^ nI p) 128 := vin x4 (by omega) (by omega)
        have eg : W 3 (nI K ^^^ nI p).toNatClampNeg = oM (-(nI 1)) (tB ok K (K ^^^ p)) := by rw [clN x4 (by omega)]; exact hgo
        have eK : W 3 (nI K).toNatClampNeg = oM (-(nI 1)) a := by rw [nI_clamp (by omega)]; exact hWK
        have no : tA ok (tB ok K) K p a = a → X 76 [some (.ref 0), none, some (.int (nI far)), some (.int (nI V)), some (.int (nI K)), some (.int (nI p)), some (.int (W 3 (nI K ^^^ nI p).toNatClampNeg)), none] [] sh_6_7 W 0 0 := by
          intro h
          refine hX _ _ _ _ _ _ _ ?_
          refine hX _ _ _ _ _ _ _ ?_
          refine ⟨fun _ => ?_, fun z => absurd rfl z⟩
          exact next W hW (by rw [h]; exact hWK)
        refine hX _ _ _ _ _ _ _ ?_
        refine b_le rfl (b := 0) rfl (by omega) (by omega) (fun h => by omega) (fun _ => ?_)
        refine ⟨ev, vp_in_nI (by omega) (by omega), ?_⟩
        refine b_gt lw rfl (by omega) (by omega) (fun h => no ?_) (fun h => ?_)
        · have e0 : ok p = false := by rw [hokp]; exact decide_eq_false (by omega)
          unfold tA
          rw [e0]
          split
          · rfl
          · rfl
        have e1 : ok p = true := by rw [hokp]; exact decide_eq_true h
        refine ⟨fun h2 => no ?_, fun h2 => ?_⟩
        · have h2 : W 3 (nI K ^^^ nI p).toNatClampNeg = -(nI 1) := h2
          rw [eg] at h2
          unfold tA
          split
          · rfl
          · rename_i v hv
            rw [hv] at h2
            have := hgle v hv
            exact absurd h2 (oM_ne (by omega))
        · have h2 : ¬ W 3 (nI K ^^^ nI p).toNatClampNeg = -(nI 1) := h2
          rw [eg] at h2
          cases hv : tB ok K (K ^^^ p) with
          | none => rw [hv] at h2; exact absurd rfl h2
          | some v =>
            have hvle := hgle v hv
            rw [hv] at eg
            have eg : W 3 (nI K ^^^ nI p).toNatClampNeg = nI v := eg
            have eg1 : W 3 (nI K ^^^ nI p).toNatClampNeg + nI 1 = nI (v + 1) := by rw [eg, nI_add]
            have hA : tA ok (tB ok K) K p a = oS v a := tA_s hv e1
            have tk : tA ok (tB ok K) K p a = some (v + 1) → X 109 [some (.ref 0), none, some (.int (nI far)), some (.int (nI V)), some (.int (nI K)), some (.int (nI p)), some (.int (W 3 (nI K ^^^ nI p).toNatClampNeg)), none] [] sh_6_7 W 0 0 := by
              intro h
              refine hX _ _ _ _ _ _ _ ?_
              refine ⟨vp_in_nI (by omega) (by omega), ?_⟩
              refine next _ (by rw [nI_clamp (by omega)]; exact hW.put) ?_
              rw [h, nI_clamp (by omega), mput_eq, upd_at]
              exact eg1
            refine hX _ _ _ _ _ _ _ ?_
            refine ⟨fun z => absurd z (by decide +kernel), fun _ => ?_⟩
            refine ⟨vp_in_nI (by omega) (by omega), ?_⟩
            refine ⟨fun h3 => ?_, fun h3 => ?_⟩
            · have h3 : W 3 (nI K).toNatClampNeg = -(nI 1) := h3
              rw [eK] at h3
              cases a with
              | none => exact tk hA
              | some y => have := ha y rfl; exact absurd h3 (oM_ne (by omega))
            · have h3 : ¬ W 3 (nI K).toNatClampNeg = -(nI 1) := h3
              rw [eK] at h3
              cases a with
              | none => exact absurd rfl h3
              | some y =>
                have hy := ha y rfl
                have hA : tA ok (tB ok K) K p (some y) = some (min y (v + 1)) := hA
                refine ⟨vp_in_nI (by omega) (by omega), ?_⟩
                refine b_ge eg1 (show W 3 (nI K).toNatClampNeg = nI y from eK) (by omega) (by omega) (fun h4 => ?_) (fun h4 => ?_)
                · refine next W hW ?_
                  rw [hA, Nat.min_eq_left h4]
                  exact hWK
                · refine tk ?_
                  rw [hA, Nat.min_eq_right (by omega)]
  have loop : ∀ r K W, V + 1 - K = r → K ≤ V + 1 → 0 < K → TC σ1 ok K W → X 20 [some (.ref 0), none, some (.int (nI far)), some (.int (nI V)), some (.int (nI K)), none, none, none] [] sh_6_7 W 0 0 := by
    intro r
    induction r with
    | zero =>
      intro K W hr hK hK0 hW
      have eK : K = V + 1 := by omega
      subst eK
      refine hX _ _ _ _ _ _ _ ?_
      refine b_gt rfl rfl (by omega) (by omega) (fun _ => ?_) (fun h => by omega)
      refine hX _ _ _ _ _ _ _ ?_
      refine ⟨vp_in_nI (by omega) (by omega), ?_⟩
      have hst := tB_st (ok := ok) (T := V) (2 ^ n - (V + 1))
      rw [show V + 1 + (2 ^ n - (V + 1)) = 2 ^ n by omega] at hst
      refine qi ?_ (hq W (fun c a b e f => (hW.1 c f).trans (h1.1 c a b e)) ?_ ?_ ?_)
      · show _ = W 3 (nI V).toNatClampNeg
        rw [nI_clamp (by omega), hW.2 V (by omega), hst]
      · rw [hW.1 0 (by omega)]; exact h1.2.1
      · intro T hT
        rw [hW.1 1 (by omega)]; exact h1.2.2.1 T hT
      · intro T k hT hk hb
        rw [hW.1 2 (by omega)]; exact h1.2.2.2 T k hT hk hb
    | succ r ih =>
      intro K W hr hK hK0 hW
      refine hX _ _ _ _ _ _ _ ?_
      refine b_gt rfl rfl (by omega) (by omega) (fun h => by omega) (fun _ => ?_)
      refine ⟨vp_in_nI (by omega) (by omega), ?_⟩
      refine inner K K K none _ (Nat.le_refl _) (by omega) hK0 (Nat.and_self K) (by rw [nI_clamp (by omega)]; exact hW.put) (by rw [nI_clamp (by omega), mput_eq, upd_at]; rfl) (fun v h => by cases h) (fun W2 h2 h3 => ?_)
      refine hX _ _ _ _ _ _ _ ?_
      have h9 := ih (K + 1) W2 (by omega) (by omega) (by omega) ⟨h2.1, fun T hT => ?_⟩
      · rw [← nI_1 K] at h9
        exact h9
      · by_cases e : T = K
        · subst e
          rw [tB_self (by omega)]; exact h3
        · rw [tB_low (by omega)]; exact h2.2 T (by omega)
  refine c_waitingSet hn hB.1.1 (rs4 rfl hR1) ?_
  refine ⟨vp_in_nI (n := 0) (by omega) (by omega), ?_⟩
  have h9 := fun W hW => loop _ 1 W rfl (by omega) (by omega) hW
  rw [← eV] at h9
  refine h9 _ ⟨fun c hc => ?_, fun T hT => ?_⟩
  · rw [mput_ne hc]
    exact congrFun (rn4 rfl) c
  · have e : T = 0 := by omega
    subst e
    rfl
/-- the class: trips -/
theorem RMe4.back {W σ2 : mSg} (h1 : ∀ c, c ≠ 0 → c ≠ 1 → c ≠ 2 → c ≠ 3 → σ2 c = W (mgl [(164, 4), (5, 9)] c)) (h2 : σ2 0 3 = nI 1) (h3 : ∀ T, T < 2 ^ n → σ2 1 T = nI (mWh m n T)) (h4 : ∀ T k, T < 2 ^ n → k < n → T.testBit k = true → σ2 2 (7 * T + k) = nI (mUp m n T k)) : YC (mback [(164, 4), (5, 9)] W σ2) m n ∧ ∀ c, c ≠ 164 → c ≠ 165 → c ≠ 166 → c ≠ 167 → mback [(164, 4), (5, 9)] W σ2 c = W c := by
  refine ⟨⟨?_, Or.inr ⟨h2, h3, h4⟩⟩, fun c a b e f => ?_⟩
  · have := h3 0 (Nat.two_pow_pos n)
    rw [mWh0] at this
    exact this
  · by_cases o : (c < 164 ∨ 168 ≤ c) ∧ (c < 5 ∨ 14 ≤ c)
    · exact mback_out2 o.1 o.2
    · have hc : c = 5 ∨ c = 6 ∨ c = 7 ∨ c = 8 ∨ c = 9 ∨ c = 10 ∨ c = 11 ∨ c = 12 ∨ c = 13 := by omega
      rcases hc with rfl | rfl | rfl | rfl | rfl | rfl | rfl | rfl | rfl
      · exact h1 4 (by omega) (by omega) (by omega) (by omega)
      · exact h1 5 (by omega) (by omega) (by omega) (by omega)
      · exact h1 6 (by omega) (by omega) (by omega) (by omega)
      · exact h1 7 (by omega) (by omega) (by omega) (by omega)
      · exact h1 8 (by omega) (by omega) (by omega) (by omega)
      · exact h1 9 (by omega) (by omega) (by omega) (by omega)
      · exact h1 10 (by omega) (by omega) (by omega) (by omega)
      · exact h1 11 (by omega) (by omega) (by omega) (by omega)
      · exact h1 12 (by omega) (by omega) (by omega) (by omega)
set_option maxRecDepth 100000 in
theorem c_ytrips {p : Int32} (hB : BD m n nc ns nd) (hR : RYs σ m) (hC : YC σ m n) (q1 : ∀ k, k ≤ 99 → p = nI k → ∀ σ', YC σ' m n → (∀ c, c ≠ 164 → c ≠ 165 → c ≠ 166 → c ≠ 167 → σ' c = σ c) → Q (.inl (some (.int (sTr m n k)))) sh_9 σ') (q0 : (¬ ∃ k, k < 100 ∧ p = nI k) → Q (.inr 0) sh_9 σ) : mD (d + 6) 28 [.ref 0, .int p] sh_9 σ Q := by
  refine ⟨rfl, fun X hX => ?_⟩
  have bad : (¬ ∃ k, k < 100 ∧ p = nI k) → X 10 [none, none] [] sh_9 σ 0 0 := by
    intro h
    refine hX _ _ _ _ _ _ _ ?_
    exact q0 h
  refine hX _ _ _ _ _ _ _ ?_
  rcases rng2 (p := p) (a := 0) (b := 99) (by omega) (by omega) with h | h | ⟨s, h1, h2, rfl⟩
  · exact ⟨fun _ => bad (fun ⟨k, hk, e⟩ => rng2_no (b := 99) (by omega) (by omega) (Or.inl h) ⟨k, by omega, by omega, e⟩), fun z => absurd h z⟩
  · exact ⟨fun _ => bad (fun ⟨k, hk, e⟩ => rng2_no (a := 0) (b := 99) (by omega) (by omega) (Or.inr h) ⟨k, by omega, by omega, e⟩), fun _ => ⟨fun z => absurd h (Int32.not_lt.mpr z), fun _ => bad (fun ⟨k, hk, e⟩ => rng2_no (a := 0) (b := 99) (by omega) (by omega) (Or.inr h) ⟨k, by omega, by omega, e⟩)⟩⟩
  · refine ⟨fun z => absurd z (nI_pos (by omega)), fun _ => ⟨fun _ => ?_, fun z => absurd (nI_le h2 (by omega)) z⟩⟩
    refine hX _ _ _ _ _ _ _ ?_
    refine c_fewestSets h2 hB hR.rr hC.rch (fun σ2 g1 g2 g3 g4 => ?_)
    have h4 := RMe4.back (W := σ) g1 g2 g3 g4
    exact q1 s h2 rfl _ h4.1 h4.2
end CTR
