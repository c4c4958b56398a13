/-! THE CLASS: fires, contracts, days -/
section CDB
variable {d : Nat} {σ : mSg} {m : Nat → Int32} {v : Int32} {ls : List lLn} {Q : mPst} {n nc ns nd : Nat}
theorem c_burnAndGnaw (hR : RS σ m) (hq : ∀ σ', RS σ' (sBurn m) → Q (.inl none) sh_7 σ') : mD (d + 2) 229 [.ref 0] sh_7 σ Q := by
  refine ⟨rfl, fun X hX => ?_⟩
  have last : ∀ σ1, RS σ1 (sBu2 (sBu1 m)) → X 51 [some (.ref 0)] [] sh_7 σ1 0 0 := by
    intro σ1 h1
    generalize hm : sBu2 (sBu1 m) = m2 at *
    refine hX _ _ _ _ _ _ _ ?_
    refine c_draw h1 ?_
    intro σ2 h2
    refine ⟨by decide +kernel, ?_⟩
    have e8 : σ2 0 13 = m2 8 := (h2.get rf0.2.2.2.2.2.2.1).trans (upd_off (by omega))
    have eb : sBurn m = sBu3 m2 := by unfold sBurn; rw [hm]
    rw [eb] at hq
    unfold sBu3 at hq
    refine ⟨fun h => ?_, fun h => ?_⟩
    · have h : σ2 0 13 ≤ sRm (sDw (sStep (m2 13))) := h
      rw [e8] at h
      rw [if_pos h] at hq
      refine hX _ _ _ _ _ _ _ ?_
      exact hq σ2 h2
    · have h : ¬ σ2 0 13 ≤ sRm (sDw (sStep (m2 13))) := h
      rw [e8] at h
      rw [if_neg h] at hq
      refine ⟨vp_in_nI (n := 4) (by omega) (by omega), by decide +kernel, vp_in_nI (n := 4) (by omega) (by omega), ?_⟩
      refine hX _ _ _ _ _ _ _ ?_
      refine hq _ ?_
      have e4 : σ2 6 4 = upd m2 13 (sStep (m2 13)) 17 := h2.get (rqh 4 (by omega) (by omega))
      have h3 := h2.put (rqh 4 (by omega) (by omega)) (upd m2 13 (sStep (m2 13)) 17 / nI 2)
      rw [← e4] at h3
      rw [show sHv (upd m2 13 (sStep (m2 13))) 4 = upd (upd m2 13 (sStep (m2 13))) 17 (σ2 6 4 / nI 2) by rw [e4]; rfl]
      exact h3
  have mid : ∀ σ1 u, RS σ1 (upd m 13 (sStep (m 13))) → b01 u → u = (if m 7 ≤ sRm (sDw (sStep (m 13))) then nI 0 else nI 1) → X 20 [some (.ref 0)] [.int u, .ref 0] sh_7 σ1 0 0 := by
    intro σ1 u h1 hu eu
    have h2 := h1.put rf0.2.2.2.2.2.2.2.2.2.1 u
    have e1 : upd (upd m 13 (sStep (m 13))) 11 u = sBu1 m := by unfold sBu1; rw [eu]
    rw [e1] at h2
    refine hX _ _ _ _ _ _ _ ?_
    refine ⟨b01_z hu, ?_⟩
    have e11 : sBu1 m 11 = u := by rw [← e1, upd_at]
    unfold sBu2 at last
    rw [e11] at last
    rcases hu with rfl | rfl
    · refine ⟨fun _ => ?_, fun h => absurd rfl h⟩
      rw [if_neg (by decide +kernel)] at last
      exact last _ h2
    · refine ⟨fun h => absurd (show nI 1 = 0 from h) (by decide +kernel), fun _ => ?_⟩
      rw [if_pos rfl] at last
      refine ⟨vp_in_nI (n := 5) (by omega) (by omega), by decide +kernel, vp_in_nI (n := 5) (by omega) (by omega), ?_⟩
      refine ⟨vp_in_nI (n := 6) (by omega) (by omega), by decide +kernel, vp_in_nI (n := 6) (by omega) (by omega), ?_⟩
      refine last _ ?_
      have e5 : (mput σ1 0 16 (nI 1)) 6 5 = sBu1 m 18 := h2.get (rqh 5 (by omega) (by omega))
      have h3 : RS (mput (mput σ1 0 16 (nI 1)) 6 5 ((mput σ1 0 16 (nI 1)) 6 5 / nI 2)) (sHv (sBu1 m) 5) := by
        rw [e5]; exact h2.put (rqh 5 (by omega) (by omega)) _
      have e6 : (mput (mput σ1 0 16 (nI 1)) 6 5 ((mput σ1 0 16 (nI 1)) 6 5 / nI 2)) 6 6 = sHv (sBu1 m) 5 19 := h3.get (rqh 6 (by omega) (by omega))
      have h4 : RS (mput (mput (mput σ1 0 16 (nI 1)) 6 5 ((mput σ1 0 16 (nI 1)) 6 5 / nI 2)) 6 6 ((mput (mput σ1 0 16 (nI 1)) 6 5 ((mput σ1 0 16 (nI 1)) 6 5 / nI 2)) 6 6 / nI 2)) (sHv (sHv (sBu1 m) 5) 6) := by
        rw [e6]; exact h3.put (rqh 6 (by omega) (by omega)) _
      exact h4
  refine hX _ _ _ _ _ _ _ ?_
  refine c_draw hR ?_
  intro σ1 h1
  refine ⟨by decide +kernel, ?_⟩
  have e7 : σ1 0 12 = m 7 := (h1.get rf0.2.2.2.2.2.1).trans (upd_off (by omega))
  refine ⟨fun h => ?_, fun h => ?_⟩
  · have h : σ1 0 12 ≤ sRm (sDw (sStep (m 13))) := h
    rw [e7] at h
    refine hX _ _ _ _ _ _ _ ?_
    exact mid σ1 (nI 0) h1 b01_0 (if_pos h).symm
  · have h : ¬ σ1 0 12 ≤ sRm (sDw (sStep (m 13))) := h
    rw [e7] at h
    exact mid σ1 (nI 1) h1 b01_1 (if_neg h).symm
theorem c_settleAll (hB : BD m n nc ns nd) (hR : RS σ m) (hq : ∀ σ', RS σ' (sSa m nd).1 → Q (.inl (some (.int (sSa m nd).2))) sh_7 σ') : mD (d + 5) 230 [.ref 0] sh_7 σ Q := by
  have hnd := hB.2.2.2.1.2
  refine ⟨rfl, fun X hX => ?_⟩
  have loop : ∀ j k σ1, nd - k = j → k ≤ nd → RS σ1 (sSa m k).1 → X 4 [some (.ref 0), some (.int (sSa m k).2), some (.int (nI k))] [] sh_7 σ1 0 0 := by
    intro j
    induction j with
    | zero =>
      intro k σ1 hj hk h1
      obtain ⟨hB1, -⟩ := sSa_ok hB k hk
      have e6 : σ1 0 10 = nI nd := (h1.get rf0.2.2.2.1).trans hB1.2.2.2.1.1
      refine hX _ _ _ _ _ _ _ ?_
      refine b_ge rfl e6 (by omega) (by omega) (fun _ => ?_) (fun h => by omega)
      refine hX _ _ _ _ _ _ _ ?_
      have ek : k = nd := by omega
      subst ek
      exact hq σ1 h1
    | succ j ih =>
      intro k σ1 hj hk h1
      obtain ⟨hB1, -⟩ := sSa_ok hB k hk
      have e6 : σ1 0 10 = nI nd := (h1.get rf0.2.2.2.1).trans hB1.2.2.2.1.1
      obtain ⟨lo, hi, q, p, c1, c2, c3, c4, c5, c6, c7, c8, c9, c10, c11⟩ := hB1.2.2.2.2.2.2.2.1 k (by omega)
      have el : dLo (sSa m k).1 k = lo := by unfold dLo; rw [c7, nI_clamp (by omega)]
      have eh : dHi (sSa m k).1 k = hi := by unfold dHi; rw [c8, nI_clamp (by omega)]
      have ih := ih (k + 1)
      rw [sSa, el, eh] at ih
      refine hX _ _ _ _ _ _ _ ?_
      refine b_ge rfl e6 (by omega) (by omega) (fun h => by omega) (fun _ => ?_)
      refine c_canSettle (by omega) c7 c8 c1 c3 (by omega) h1 (fun hc => ?_) (fun hc => ?_)
      · have hc : (sSa m k).1 (93 + 5 * k + 4) = nI 1 ∧ (sSa m k).1 (93 + 5 * k + 2) ≤ sHS (sSa m k).1 lo (hi + 1 - lo) := hc
        rw [if_pos hc] at ih
        refine ⟨fun h => absurd h (by decide +kernel), fun _ => ?_⟩
        refine c_settle (what := nI 1) (by omega) c7 c8 c1 c3 c2 h1 ?_
        intro σ2 h2
        refine hX _ _ _ _ _ _ _ ?_
        have h9 := ih σ2 (by omega) (by omega) h2
        rw [← nI_1 k] at h9
        exact h9
      · have hc : ¬ ((sSa m k).1 (93 + 5 * k + 4) = nI 1 ∧ (sSa m k).1 (93 + 5 * k + 2) ≤ sHS (sSa m k).1 lo (hi + 1 - lo)) := hc
        rw [if_neg hc] at ih
        refine ⟨fun _ => ?_, fun h => absurd rfl h⟩
        refine hX _ _ _ _ _ _ _ ?_
        have h9 := ih σ1 (by omega) (by omega) h1
        rw [← nI_1 k] at h9
        exact h9
  refine hX _ _ _ _ _ _ _ ?_
  exact loop _ 0 σ rfl (Nat.zero_le _) hR
theorem c_pass {N : Nat} {dr : Bool} {u : Int32} (hu : u = (if dr = true then nI 1 else nI 0)) (hN : N < 1000) (hO : lOks ls) (hl : ls.length ≤ 12) (hB : BD m n nc ns nd) (hD : DW σ m v ls) (hq : ∀ σ', DW σ' (sDays ls dr n nc nd m N).1 v ls → Q (.inl (some (.int (sDays ls dr n nc nd m N).2))) sh_7_2 σ') : mD (d + 6) 226 [.ref 0, .ref 9, .int (nI N), .int u] sh_7_2 σ Q := by
  have hn := hB.1.2
  have hnc := hB.2.1.2
  have hub : b01 u := by
    rw [hu]
    split
    · exact b01_1
    · exact b01_0
  refine ⟨rfl, fun X hX => ?_⟩
  have loop : ∀ j k σ1, N - k = j → k ≤ N → DW σ1 (sDays ls dr n nc nd m k).1 v ls → X 6 [some (.ref 0), some (.ref 9), some (.int (nI N)), some (.int u), some (.int (sDays ls dr n nc nd m k).2), some (.int (nI k)), none] [] sh_7_2 σ1 0 0 := by
    intro j
    induction j with
    | zero =>
      intro k σ1 hj hk h1
      refine hX _ _ _ _ _ _ _ ?_
      refine b_ge rfl rfl (by omega) (by omega) (fun _ => ?_) (fun h => by omega)
      refine hX _ _ _ _ _ _ _ ?_
      have ek : k = N := by omega
      subst ek
      exact hq σ1 h1
    | succ j ih =>
      intro k σ1 hj hk h1
      obtain ⟨hB1, -⟩ := sDays_ok (dr := dr) hO hl hB k
      generalize hM : (sDays ls dr n nc nd m k).1 = M at h1 hB1
      have fin : ∀ σ2, DW σ2 (sDay0 ls dr M n nc) v ls → X 50 [some (.ref 0), some (.ref 9), some (.int (nI N)), some (.int u), some (.int (sDays ls dr n nc nd m k).2), some (.int (nI k)), none] [] sh_7_2 σ2 0 0 := by
        intro σ2 h2
        obtain ⟨hB2, -⟩ := sDay0_ok (dr := dr) hO hl hB1
        refine hX _ _ _ _ _ _ _ ?_
        refine c_settleAll hB2 h2.1.sub ?_
        intro σ3 r3
        have h3 := h2.bs r3
        have e10 : (mback [(0, 9)] σ2 σ3) 0 15 = (sSa (sDay0 ls dr M n nc) nd).1 10 := h3.1.get rf0.2.2.2.2.2.2.2.2.1
        have h4 : DW (mput (mback [(0, 9)] σ2 σ3) 0 15 (sMin (nI 9999) ((mback [(0, 9)] σ2 σ3) 0 15 + nI 1))) (sDay ls dr M n nc nd).1 v ls := by
          rw [e10]
          exact h3.put rf0.2.2.2.2.2.2.2.2.1 _
        rw [← hM] at h4
        have h9 := ih (k + 1) _ (by omega) (by omega) h4
        rw [← nI_1 k, sDays] at h9
        rw [hM] at h9
        exact h9
      have carts : ∀ q c σ2, nc - c = q → c ≤ nc → DW σ2 (sCs ls (sFB ls M n) n c) v ls → X 20 [some (.ref 0), some (.ref 9), some (.int (nI N)), some (.int u), some (.int (sDays ls dr n nc nd m k).2), some (.int (nI k)), some (.int (nI c))] [] sh_7_2 σ2 0 0 := by
        intro q
        obtain ⟨hBf, -⟩ := sFB_ok hO hl hB1 n (Nat.le_refl _)
        induction q with
        | zero =>
          intro c σ2 hq2 hc h2
          obtain ⟨hB2, -⟩ := sCs_ok hO hl hBf c hc
          have e4 : σ2 0 8 = nI nc := (h2.1.get rf0.2.1).trans hB2.2.1.1
          have ec : c = nc := by omega
          subst ec
          refine hX _ _ _ _ _ _ _ ?_
          refine b_ge rfl e4 (by omega) (by omega) (fun _ => ?_) (fun h => by omega)
          refine hX _ _ _ _ _ _ _ ?_
          unfold sDay0 at fin
          cases dr with
          | true =>
            subst hu
            refine ⟨fun h => absurd h (by decide +kernel), fun _ => ?_⟩
            refine c_burnAndGnaw h2.1.sub ?_
            intro σ3 r3
            exact fin _ (h2.bs r3)
          | false =>
            subst hu
            refine ⟨fun _ => ?_, fun h => absurd rfl h⟩
            exact fin _ h2
        | succ q ih2 =>
          intro c σ2 hq2 hc h2
          obtain ⟨hB2, -⟩ := sCs_ok hO hl hBf c hc
          have e4 : σ2 0 8 = nI nc := (h2.1.get rf0.2.1).trans hB2.2.1.1
          refine hX _ _ _ _ _ _ _ ?_
          refine b_ge rfl e4 (by omega) (by omega) (fun h => by omega) (fun _ => ?_)
          refine c_sendOut hO hl hB2 (by omega) h2 ?_
          intro σ3 h3
          have h9 := ih2 (c + 1) σ3 (by omega) (by omega) h3
          rw [← nI_1 c] at h9
          exact h9
      refine hX _ _ _ _ _ _ _ ?_
      refine b_ge rfl rfl (by omega) (by omega) (fun h => by omega) (fun _ => ?_)
      refine c_fillBins hO hl hB1 h1 ?_
      intro σ2 h2
      exact carts _ 0 σ2 rfl (Nat.zero_le _) h2
  refine hX _ _ _ _ _ _ _ ?_
  exact loop _ 0 σ rfl (Nat.zero_le _) hD
end CDB
