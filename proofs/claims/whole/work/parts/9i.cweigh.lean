/-! THE CLASS: contracts that are worth the most -/
section CWE
variable {d : Nat} {σ : mSg} {m : Nat → Int32} {Q : mPst} {n nc ns nd : Nat}
def RQ (σ : mSg) (m : Nat → Int32) : Prop := RS (fun j => σ (mgl [(3, 9)] j)) m
theorem RQ.g (h : RQ σ m) {k i : Nat} (hr : rp 0 k = some i) : σ 3 k = m i := RS.get (σ := fun j => σ (mgl [(3, 9)] j)) h hr
theorem RQ.cg {W : mSg} (h : RQ σ m) (hk : ∀ c, 3 ≤ c → W c = σ c) : RQ W m := RS.congr h (fun c hc => by
  show W (mgl [(3, 9)] c) = σ (mgl [(3, 9)] c)
  rw [mgl9 hc]
  exact hk _ (by omega))
theorem q3 {W : mSg} (h : W = σ) : mback [(3, 9)] W (fun j => W (mgl [(3, 9)] j)) = σ := by rw [same1, h]
theorem pb_le : ∀ K, K < 128 → pb K 7 ≤ 7 := by decide +kernel
theorem c_weigh (hB : BD m n nc ns nd) (hR : RQ σ m) (hq : ∀ σ', (∀ c, 1 ≤ c → σ' c = σ c) → σ' 0 2 = nI (pyN m nd (sBe m nd (2 ^ nd))) → σ' 0 3 = nI (sBe m nd (2 ^ nd)) → Q (.inl none) sh_0_7 σ') : mD (d + 5) 232 [.ref 0, .ref 3] sh_0_7 σ Q := by
  have hn := hB.2.2.2.1.2
  have h2n : 2 ^ nd ≤ 64 := Nat.pow_le_pow_right (by omega) hn
  refine ⟨rfl, fun X hX => ?_⟩
  have loop : ∀ r K W, 2 ^ nd - K = r → K ≤ 2 ^ nd → 0 < K → (∀ c, 1 ≤ c → W c = σ c) → W 0 2 = nI (pyN m nd (sBe m nd K)) → W 0 3 = nI (sBe m nd K) → X 12 [some (.ref 0), some (.ref 3), some (.int (nI K)), none, none, none] [] sh_0_7 W 0 0 := by
    intro r
    induction r with
    | zero =>
      intro K W hr hK hK0 w1 w2 w3
      have eK : K = 2 ^ nd := by omega
      have hRW := hR.cg (fun c hc => w1 c (by omega))
      have e4 : nI 1 <<< (W 3 10 &&& 31) = nI (2 ^ nd) := by rw [hRW.g rf0.2.2.2.1, hB.2.2.2.1.1]; exact bit_one nd (by omega)
      rw [eK] at w2 w3 ⊢
      refine hX _ _ _ _ _ _ _ ?_
      refine b_ge rfl e4 (by omega) (by omega) (fun _ => ?_) (fun h => by omega)
      refine hX _ _ _ _ _ _ _ ?_
      exact hq W w1 w2 w3
    | succ r ih =>
      intro K W hr hK hK0 w1 w2 w3
      have hRW := hR.cg (fun c hc => w1 c (by omega))
      have e4 : nI 1 <<< (W 3 10 &&& 31) = nI (2 ^ nd) := by rw [hRW.g rf0.2.2.2.1, hB.2.2.2.1.1]; exact bit_one nd (by omega)
      have hble := sBe_le (m := m) (nd := nd) K
      have hpos := fun h => sBe_p (m := m) (nd := nd) (K := K) h
      have hneg := fun h => sBe_n (m := m) (nd := nd) (K := K) h
      have nxt := fun W2 a b c => ih (K + 1) W2 (by omega) (by omega) (by omega) a b c
      generalize hb2 : sBe m nd (K + 1) = b2 at hpos hneg nxt
      generalize hb : sBe m nd K = b at hpos hneg hble w2 w3
      have pK := pyN_ok (S := K) hB
      have pB := pyN_ok (S := b) hB
      have lK := pb_le K (by omega)
      have lb := pb_le b (by omega)
      have keep : ∀ W2, W2 = W → ¬ (btr m nd K b ∧ svd m nd K) → X 100 [some (.ref 0), some (.ref 3), some (.int (nI K)), none, none, none] [] sh_0_7 W2 0 0 := by
        intro W2 hW2 h
        subst hW2
        refine hX _ _ _ _ _ _ _ ?_
        have h9 := nxt W2 w1 (by rw [hneg h]; exact w2) (by rw [hneg h]; exact w3)
        rw [← nI_1 K] at h9
        exact h9
      have no75 : ∀ W2 x, W2 = W → ¬ (btr m nd K b ∧ svd m nd K) → X 74 [some (.ref 0), some (.ref 3), some (.int (nI K)), some (.int x), none, none] [] sh_0_7 W2 0 0 := by
        intro W2 x hW2 h
        refine hX _ _ _ _ _ _ _ ?_
        refine hX _ _ _ _ _ _ _ ?_
        refine ⟨fun _ => keep W2 hW2 h, fun z => absurd rfl z⟩
      have yes : ∀ W2, W2 = W → btr m nd K b → K &&& opN m nd = K → X 70 [some (.ref 0), some (.ref 3), some (.int (nI K)), some (.int (nI (pyN m nd K))), none, none] [] sh_0_7 W2 0 0 := by
        intro W2 hW2 h1 h2
        subst hW2
        refine hX _ _ _ _ _ _ _ ?_
        refine hX _ _ _ _ _ _ _ ?_
        refine ⟨fun z => absurd z (by decide +kernel), fun _ => ?_⟩
        refine c_isEnough (by omega) hB hRW (fun he => ?_) (fun he => ?_)
        · refine ⟨fun z => absurd z (by decide +kernel), fun _ => ?_⟩
          have e := hpos ⟨h1, h2, he⟩
          refine hX _ _ _ _ _ _ _ ?_
          have h9 := nxt (mput (mput (mback [(3, 9)] W2 (fun j => W2 (mgl [(3, 9)] j))) 0 2 (nI (pyN m nd K))) 0 3 (nI K)) (fun c hc => by rw [mput_ne (by omega), mput_ne (by omega), same1]; exact w1 c hc) (by rw [e]; rfl) (by rw [e]; rfl)
          rw [← nI_1 K] at h9
          exact h9
        · refine ⟨fun _ => ?_, fun z => absurd rfl z⟩
          exact keep _ (q3 rfl) (fun z => he z.2.2)
      refine hX _ _ _ _ _ _ _ ?_
      refine b_ge rfl e4 (by omega) (by omega) (fun h => by omega) (fun _ => ?_)
      refine c_worthOf (S := K) (by omega) hB hRW (fun ho => ?_) (fun ho => ?_)
      · have w23 : mback [(3, 9)] W (fun j => W (mgl [(3, 9)] j)) 0 3 = nI b := by rw [same1]; exact w3
        have w22 : mback [(3, 9)] W (fun j => W (mgl [(3, 9)] j)) 0 2 = nI (pyN m nd b) := by rw [same1]; exact w2
        refine c_bitCount rfl (show K < 128 by omega) ?_
        refine c_bitCount w23 (show b < 128 by omega) ?_
        have l47 : ∀ y, (y = nI 1 ∧ pb K 7 < pb b 7) ∨ (y = nI 0 ∧ ¬ pb K 7 < pb b 7) → X 47 [some (.ref 0), some (.ref 3), some (.int (nI K)), some (.int (nI (pyN m nd K))), none, none] [.int y] sh_0_7 (mback [(3, 9)] W (fun j => W (mgl [(3, 9)] j))) 0 0 := by
          intro y hy
          refine hX _ _ _ _ _ _ _ ?_
          refine b_gt rfl w22 (by omega) (by omega) (fun h1 => ?_) (fun h1 => ?_)
          · exact yes _ (q3 rfl) (Or.inl h1) ho
          · refine b_ne rfl w22 (by omega) (by omega) (fun h2 => ?_) (fun h2 => ?_)
            · exact no75 _ _ (q3 rfl) (fun z => by have := z.1; unfold btr at this; omega)
            · rcases hy with ⟨rfl, hp⟩ | ⟨rfl, hp⟩
              · refine ⟨fun z => absurd z (by decide +kernel), fun _ => ?_⟩
                exact yes _ (q3 rfl) (Or.inr ⟨h2, hp⟩) ho
              · refine ⟨fun _ => ?_, fun z => absurd rfl z⟩
                exact no75 _ _ (q3 rfl) (fun z => by have := z.1; unfold btr at this; omega)
        refine b_ge rfl rfl (by omega) (by omega) (fun h => ?_) (fun h => ?_)
        · refine hX _ _ _ _ _ _ _ ?_
          exact l47 (nI 0) (Or.inr ⟨rfl, by omega⟩)
        · exact l47 (nI 1) (Or.inl ⟨rfl, h⟩)
      · have w23 : mback [(3, 9)] W (fun j => W (mgl [(3, 9)] j)) 0 3 = nI b := by rw [same1]; exact w3
        have w22 : mback [(3, 9)] W (fun j => W (mgl [(3, 9)] j)) 0 2 = nI (pyN m nd b) := by rw [same1]; exact w2
        have n1 : (-(nI 1) : Int32).toInt = -1 := by decide +kernel
        have l47 : ∀ y, X 47 [some (.ref 0), some (.ref 3), some (.int (nI K)), some (.int (-(nI 1))), none, none] [.int y] sh_0_7 (mback [(3, 9)] W (fun j => W (mgl [(3, 9)] j))) 0 0 := by
          intro y
          refine hX _ _ _ _ _ _ _ ?_
          refine ⟨fun h => ?_, fun _ => ⟨fun _ => ?_, fun h => ?_⟩⟩
          · have h : mback [(3, 9)] W (fun j => W (mgl [(3, 9)] j)) 0 2 < -(nI 1) := h
            rw [w22, Int32.lt_iff_toInt_lt, nI_toInt (by omega), n1] at h
            omega
          · exact no75 _ _ (q3 rfl) (fun z => ho z.2.1)
          · have h : -(nI 1) = mback [(3, 9)] W (fun j => W (mgl [(3, 9)] j)) 0 2 := h
            rw [w22] at h
            exact absurd h.symm (oN_ne (by omega))
        refine c_bitCount rfl (show K < 128 by omega) ?_
        refine c_bitCount w23 (show b < 128 by omega) ?_
        refine b_ge rfl rfl (by omega) (by omega) (fun h => ?_) (fun h => ?_)
        · refine hX _ _ _ _ _ _ _ ?_
          exact l47 (nI 0)
        · exact l47 (nI 1)
  refine hX _ _ _ _ _ _ _ ?_
  refine loop _ 1 _ rfl (Nat.one_le_two_pow) (by omega) (fun c hc => by rw [mput_ne (by omega), mput_ne (by omega)]) ?_ ?_
  · rw [sBe1]
    have e : pyN m nd 0 = 0 := by
      have : ∀ k, sPy m 0 k = nI 0 := by
        intro k
        induction k with
        | zero => rfl
        | succ k ih => rw [sPy, Nat.zero_testBit, if_neg (by decide), ih]
      exact clN (this nd) (by omega)
    rw [e]; rfl
  · rw [sBe1]; rfl
/-- the deals' cells alone are changed -/
def DX (σ σ' : mSg) : Prop := ∀ c, c < 168 ∨ 171 ≤ c → σ' c = σ c
theorem mglD : ∀ c, c < 9 → mgl [(168, 3), (5, 9)] (mgl [(3, 9)] c) = 5 + c := by decide +kernel
theorem RYs.rq (h : RYs σ m) : RQ (fun j => σ (mgl [(168, 3), (5, 9)] j)) m := RS.congr h (fun c hc => by
  show σ (mgl [(168, 3), (5, 9)] (mgl [(3, 9)] c)) = σ (mgl [(5, 9)] c)
  rw [mglD c hc, mgl9 hc])
theorem mglD2 : ∀ c, c < 9 → mgl [(168, 3), (5, 9)] (3 + c) = 5 + c := by decide +kernel
theorem DX.of {σ2 : mSg} (h : ∀ c, 3 ≤ c → σ2 c = σ (mgl [(168, 3), (5, 9)] c)) : DX σ (mback [(168, 3), (5, 9)] σ σ2) := by
  intro c hc
  by_cases e : 5 ≤ c ∧ c < 14
  · unfold mback
    rw [mlo_skip (by omega), mlo_in e]
    show σ2 (c - 5 + 3) = σ c
    rw [h _ (by omega), Nat.add_comm, mglD2 _ (by omega)]
    congr 1; omega
  · exact mback_out2 (by omega) (by omega)
set_option maxRecDepth 100000 in
theorem c_yworth (hB : BD m n nc ns nd) (hR : RYs σ m) (hq : ∀ σ', DX σ σ' → Q (.inl (some (.int (nI (pyN m nd (sBe m nd (2 ^ nd))))))) sh_9 σ') : mD (d + 6) 29 [.ref 0] sh_9 σ Q := by
  refine ⟨rfl, fun X hX => ?_⟩
  refine hX _ _ _ _ _ _ _ ?_
  refine c_weigh hB hR.rq (fun σ2 h1 h2 h3 => ?_)
  have h4 := DX.of (σ := σ) (σ2 := σ2) (fun c hc => h1 c (by omega))
  exact qi h2.symm (hq _ h4)
set_option maxRecDepth 100000 in
theorem c_yserves (hB : BD m n nc ns nd) (hR : RYs σ m) (hq : ∀ σ', DX σ σ' → Q (.inl (some (.int (nI (sBe m nd (2 ^ nd)))))) sh_9 σ') : mD (d + 6) 30 [.ref 0] sh_9 σ Q := by
  refine ⟨rfl, fun X hX => ?_⟩
  refine hX _ _ _ _ _ _ _ ?_
  refine c_weigh hB hR.rq (fun σ2 h1 h2 h3 => ?_)
  have h4 := DX.of (σ := σ) (σ2 := σ2) (fun c hc => h1 c (by omega))
  exact qi h3.symm (hq _ h4)
end CWE
