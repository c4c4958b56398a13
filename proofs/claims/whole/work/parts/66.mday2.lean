/-! THE MODEL: carts, days -/
section MDB
variable {d : Nat} {σ0 σ : mSg} {f : Nat → Int32} {Q : mPst} {ls : List lLn} {n nc ns nd : Nat}
theorem g_drives {c : Nat} (hO : lOks ls) (hl : ls.length ≤ 12) (hB : BD f n nc ns nd) (hL : LTx f ls) (hc : c < nc) (hW : MW σ0 f σ) (hq : ∀ σ', MW σ0 (sDr ls f n c) σ' → Q (.inl none) sh_10 σ') : mD (d + 33) 138 [.ref 0, .int (nI c)] sh_10 σ Q := by
  have hn := hB.1.2
  have hnc := hB.2.1.2
  refine ⟨rfl, fun X hX => ?_⟩
  have loop : ∀ j k σ1, n - k = j → k ≤ n → MW σ0 f σ1 → X 4 [some (.ref 0), some (.int (nI c)), some (.int (oN (selD ls f c k))), some (.int (nI k))] [] sh_10 σ1 0 0 := by
    intro j
    induction j with
    | zero =>
      intro k σ1 hj hk h1
      have ek : k = n := by omega
      subst ek
      have e3 : σ1 1 3 = nI k := by rw [h1.1]; exact hB.1.1
      refine hX _ _ _ _ _ _ _ ?_
      refine ⟨vp_in_nI (n := 3) (by omega) (by omega), ?_⟩
      refine b_ge rfl e3 (by omega) (by omega) (fun _ => ?_) (fun h => by omega)
      refine hX _ _ _ _ _ _ _ ?_
      unfold sDr at hq
      cases hsel : selD ls f c k with
      | none =>
        rw [hsel] at hq
        refine ⟨fun h => absurd rfl h, fun _ => ?_⟩
        exact hq σ1 h1
      | some b =>
        rw [hsel] at hq
        obtain ⟨hb, -⟩ := selD_ok k b hsel
        refine ⟨fun _ => ?_, fun h => absurd h (oN_ne (by omega))⟩
        refine hX _ _ _ _ _ _ _ ?_
        refine ⟨vp_in_nI (n := 9) (by omega) (by omega), ?_⟩
        refine g_tollOf rfl (by omega) h1 hL ?_
        intro σ2 h2
        refine ⟨vp_in_nI (n := 9) (by omega) (by omega), ?_⟩
        have h3 : MW σ0 (upd f 9 (f 9 - sTo ls f b)) (mput σ2 1 9 (σ1 1 9 - sTo ls f b)) := by
          rw [h1.1]; exact h2.put
        refine g_hold (by omega) ?_
        refine g_of (w := 2) (by omega) (by omega) ?_
        refine g_lesser ?_
        have eh : (mput σ2 1 9 (σ1 1 9 - sTo ls f b)) 1 (83 + 2 * c) = f (83 + 2 * c) := by rw [h3.1, upd_off (by omega)]
        have ew : (mput σ2 1 9 (σ1 1 9 - sTo ls f b)) 1 (20 + 9 * b + 2) = f (22 + 9 * b) := by rw [h3.1, upd_off (by omega)]; congr 1; omega
        have en : sMin ((mput σ2 1 9 (σ1 1 9 - sTo ls f b)) 1 (83 + 2 * c)) ((mput σ2 1 9 (σ1 1 9 - sTo ls f b)) 1 (20 + 9 * b + 2)) = sMin (f (83 + 2 * c)) (f (22 + 9 * b)) := by rw [eh, ew]
        refine g_unloadsE en (by omega) h3 ?_
        intro σ4 h4
        refine g_logsE en h4 ?_
        intro σ5 h5
        exact hq σ5 h5
    | succ j ih =>
      intro k σ1 hj hk h1
      have e3 : σ1 1 3 = nI n := by rw [h1.1]; exact hB.1.1
      have e22 : ∀ b σ2, MW σ0 f σ2 → σ2 1 (20 + 9 * b + 2) = f (22 + 9 * b) := fun b σ2 h => by rw [h.1]; congr 1; omega
      have go : ∀ σ2, MW σ0 f σ2 → ∀ o, selD ls f c (k + 1) = o → X 79 [some (.ref 0), some (.int (nI c)), some (.int (oN o)), some (.int (nI k))] [] sh_10 σ2 0 0 := by
        intro σ2 h2 o es
        refine hX _ _ _ _ _ _ _ ?_
        have h9 := ih (k + 1) σ2 (by omega) (by omega) h2
        rw [es, ← nI_1 k] at h9
        exact h9
      refine hX _ _ _ _ _ _ _ ?_
      refine ⟨vp_in_nI (n := 3) (by omega) (by omega), ?_⟩
      refine b_ge rfl e3 (by omega) (by omega) (fun h => by omega) (fun _ => ?_)
      refine g_of (w := 2) (by omega) (by omega) ?_
      refine ⟨fun hz => ?_, fun hz => ?_⟩
      · have hz : σ1 1 (20 + 9 * k + 2) = 0 := hz
        rw [e22 k σ1 h1] at hz
        exact go σ1 h1 _ (by rw [selD, if_pos (Or.inl (show f (22 + 9 * k) = nI 0 from hz))])
      · have hz : ¬ σ1 1 (20 + 9 * k + 2) = 0 := hz
        rw [e22 k σ1 h1] at hz
        refine g_wayOf (s := none) (o := some k) (fun q h => by cases h) (fun q h => by cases h; omega) ?_
        refine g_goesFar (by omega) ?_
        refine ⟨fun hr => ?_, fun hr => ?_⟩
        · have hr : σ1 1 (84 + 2 * c) < nI 2 * sWay (σ1 1) none (some k) := hr
          rw [h1.1, sWay_comm] at hr
          exact go σ1 h1 _ (by rw [selD, if_pos (Or.inr (Or.inl (Int32.not_le.mpr hr)))])
        · have hr : ¬ σ1 1 (84 + 2 * c) < nI 2 * sWay (σ1 1) none (some k) := hr
          rw [h1.1, sWay_comm] at hr
          refine g_tollOf rfl (by omega) h1 hL ?_
          intro σ2 h2
          refine ⟨vp_in_nI (n := 9) (by omega) (by omega), ?_⟩
          refine ⟨fun ht => ?_, fun ht => ?_⟩
          · have ht : sTo ls f k ≤ σ2 1 9 := ht
            rw [h2.1] at ht
            have hcn : ¬ (f (22 + 9 * k) = nI 0 ∨ ¬ nI 2 * sWay f (some k) none ≤ f (84 + 2 * c) ∨ ¬ sTo ls f k ≤ f 9) := fun z => z.elim hz (fun z => z.elim (fun z => z (Int32.not_lt.mp hr)) (fun z => z ht))
            have take : ∀ σ3, MW σ0 f σ3 → selD ls f c (k + 1) = some k → X 77 [some (.ref 0), some (.int (nI c)), none, some (.int (nI k))] [] sh_10 σ3 0 0 := by
              intro σ3 h3 es
              refine hX _ _ _ _ _ _ _ ?_
              exact go σ3 h3 (some k) es
            refine hX _ _ _ _ _ _ _ ?_
            cases hsel : selD ls f c k with
            | none =>
              refine ⟨fun _ => ?_, fun h => absurd rfl h⟩
              exact take σ2 h2 (by rw [selD, if_neg hcn, hsel])
            | some b =>
              obtain ⟨hb, -⟩ := selD_ok k b hsel
              refine ⟨fun h => absurd h (oN_ne (by omega)), fun _ => ?_⟩
              refine g_of (w := 2) (by omega) (by omega) ?_
              refine g_of (w := 2) (by omega) (by omega) ?_
              refine ⟨fun hle => ?_, fun hle => ?_⟩
              · have hle : σ2 1 (20 + 9 * k + 2) ≤ σ2 1 (20 + 9 * b + 2) := hle
                rw [e22 k σ2 h2, e22 b σ2 h2] at hle
                exact go σ2 h2 (some b) (by rw [selD, if_neg hcn, hsel]; exact if_neg (Int32.not_lt.mpr hle))
              · have hle : ¬ σ2 1 (20 + 9 * k + 2) ≤ σ2 1 (20 + 9 * b + 2) := hle
                rw [e22 k σ2 h2, e22 b σ2 h2] at hle
                exact take σ2 h2 (by rw [selD, if_neg hcn, hsel]; exact if_pos (Int32.not_le.mp hle))
          · have ht : ¬ sTo ls f k ≤ σ2 1 9 := ht
            rw [h2.1] at ht
            exact go σ2 h2 _ (by rw [selD, if_pos (Or.inr (Or.inr ht))])
  refine hX _ _ _ _ _ _ _ ?_
  exact loop _ 0 σ rfl (Nat.zero_le _) hW
theorem g_passes {dr : Bool} {u : Int32} (hu : u = (if dr = true then nI 1 else nI 0)) (hO : lOks ls) (hl : ls.length ≤ 12) (hB : BD f n nc ns nd) (hL : LTx f ls) (hW : MW σ0 f σ) (hq : ∀ σ', MW σ0 (sDay ls dr f n nc nd).1 σ' → Q (.inl (some (.int (sDay ls dr f n nc nd).2))) sh_10 σ') : mD (d + 34) 143 [.ref 0, .int u] sh_10 σ Q := by
  have hn := hB.1.2
  have hnc := hB.2.1.2
  have hnd := hB.2.2.2.1.2
  refine ⟨rfl, fun X hX => ?_⟩
  obtain ⟨hBf, hKf⟩ := sFB_ok hO hl hB n (Nat.le_refl _)
  have deals : ∀ j k σ1, nd - k = j → k ≤ nd → MW σ0 (sSa (sDay0 ls dr f n nc) k).1 σ1 → X 164 [some (.ref 0), none, some (.int (sSa (sDay0 ls dr f n nc) k).2), some (.int (nI k))] [] sh_10 σ1 0 0 := by
    obtain ⟨hB0, -⟩ := sDay0_ok (dr := dr) hO hl hB
    intro j
    induction j with
    | zero =>
      intro k σ1 hj hk h1
      obtain ⟨hB1, -⟩ := sSa_ok hB0 k hk
      have e6 : σ1 1 6 = nI nd := by rw [h1.1]; exact hB1.2.2.2.1.1
      have ek : k = nd := by omega
      subst ek
      refine hX _ _ _ _ _ _ _ ?_
      refine ⟨vp_in_nI (n := 6) (by omega) (by omega), ?_⟩
      refine b_ge rfl e6 (by omega) (by omega) (fun _ => ?_) (fun h => by omega)
      refine hX _ _ _ _ _ _ _ ?_
      refine ⟨vp_in_nI (n := 10) (by omega) (by omega), ?_⟩
      refine g_lesser ?_
      refine ⟨vp_in_nI (n := 10) (by omega) (by omega), ?_⟩
      refine hq _ ?_
      have h2 : MW σ0 (sDay ls dr f n nc k).1 (mput σ1 1 10 (sMin (nI 9999) (σ1 1 10 + nI 1))) := by
        rw [h1.1]; exact h1.put
      exact h2
    | succ j ih =>
      intro k σ1 hj hk h1
      obtain ⟨hB1, -⟩ := sSa_ok hB0 k hk
      have e6 : σ1 1 6 = nI nd := by rw [h1.1]; exact hB1.2.2.2.1.1
      obtain ⟨lo, hi, q, p, c1, c2, c3, c4, c5, c6, c7, c8, c9, c10, c11⟩ := hB1.2.2.2.2.2.2.2.1 k (by omega)
      have el : dLo (sSa (sDay0 ls dr f n nc) k).1 k = lo := by unfold dLo; rw [c7, nI_clamp (by omega)]
      have eh : dHi (sSa (sDay0 ls dr f n nc) k).1 k = hi := by unfold dHi; rw [c8, nI_clamp (by omega)]
      have ih := ih (k + 1)
      rw [sSa, el, eh] at ih
      have no : ¬ ((sSa (sDay0 ls dr f n nc) k).1 (93 + 5 * k + 4) = nI 1 ∧ (sSa (sDay0 ls dr f n nc) k).1 (93 + 5 * k + 2) ≤ sHS (sSa (sDay0 ls dr f n nc) k).1 lo (hi + 1 - lo)) → X 203 [some (.ref 0), none, some (.int (sSa (sDay0 ls dr f n nc) k).2), some (.int (nI k))] [] sh_10 σ1 0 0 := by
        intro hc
        rw [if_neg hc] at ih
        refine hX _ _ _ _ _ _ _ ?_
        have h9 := ih σ1 (by omega) (by omega) h1
        rw [← nI_1 k] at h9
        exact h9
      refine hX _ _ _ _ _ _ _ ?_
      refine ⟨vp_in_nI (n := 6) (by omega) (by omega), ?_⟩
      refine b_ge rfl e6 (by omega) (by omega) (fun h => by omega) (fun _ => ?_)
      refine g_isOpen (by omega) (fun ho => ?_) (fun ho => ?_)
      · rw [h1.1] at ho
        refine ⟨fun h => absurd h (by decide +kernel), fun _ => ?_⟩
        refine g_hasFor (by omega) (by rw [h1.1]; exact c7) (by rw [h1.1]; exact c8) c1 c3 (by omega) (fun hh => ?_) (fun hh => ?_)
        · rw [h1.1] at hh
          rw [if_pos ⟨ho, hh⟩] at ih
          refine ⟨fun _ => ?_, fun h => absurd h (by decide +kernel)⟩
          refine hX _ _ _ _ _ _ _ ?_
          refine g_isFilled (what := nI 1) (by omega) c7 c8 c1 c3 c2 h1 ?_
          intro σ2 h2
          refine hX _ _ _ _ _ _ _ ?_
          have h9 := ih σ2 (by omega) (by omega) h2
          rw [← nI_1 k] at h9
          exact h9
        · rw [h1.1] at hh
          refine ⟨fun h => absurd rfl h, fun _ => ?_⟩
          exact no (fun z => hh z.2)
      · rw [h1.1] at ho
        refine ⟨fun _ => ?_, fun h => absurd rfl h⟩
        exact no (fun z => ho z.1)
  have fin : ∀ σ1, MW σ0 (sDay0 ls dr f n nc) σ1 → X 160 [some (.ref 0), none, none, none] [] sh_10 σ1 0 0 := by
    intro σ1 h1
    refine hX _ _ _ _ _ _ _ ?_
    exact deals _ 0 σ1 rfl (Nat.zero_le _) h1
  have burn : dr = true → ∀ σ1, MW σ0 (sCs ls (sFB ls f n) n nc) σ1 → X 74 [some (.ref 0), some (.int u), none, none] [] sh_10 σ1 0 0 := by
    intro hdr σ1 h1
    unfold sDay0 at fin
    rw [if_pos hdr] at fin hu
    subst hu
    generalize sCs ls (sFB ls f n) n nc = m at *
    have f3 : ∀ σ2, MW σ0 (sBu2 (sBu1 m)) σ2 → X 139 [some (.ref 0), none, none, none] [] sh_10 σ2 0 0 := by
      intro σ2 h2
      unfold sBurn at fin
      generalize sBu2 (sBu1 m) = m2 at *
      unfold sBu3 at fin
      refine hX _ _ _ _ _ _ _ ?_
      refine g_drawW h2 ?_
      intro σ3 h3
      refine ⟨vp_in_nI (n := 8) (by omega) (by omega), ?_⟩
      have e8 : σ3 1 8 = m2 8 := by rw [h3.1, upd_off (by omega)]
      refine ⟨fun h => ?_, fun h => ?_⟩
      · have h : σ3 1 8 ≤ sRm (sDw (sStep (m2 13))) := h
        rw [e8] at h
        rw [if_pos h] at fin
        exact fin σ3 h3
      · have h : ¬ σ3 1 8 ≤ sRm (sDw (sStep (m2 13))) := h
        rw [e8] at h
        rw [if_neg h] at fin
        refine g_halvesW (by omega) (by omega) h3 ?_
        intro σ4 h4
        exact fin σ4 h4
    have f1 : ∀ σ2 x, MW σ0 (upd m 13 (sStep (m 13))) σ2 → b01 x → x = (if m 7 ≤ sRm (sDw (sStep (m 13))) then nI 0 else nI 1) → X 105 [some (.ref 0), none, none, none] [.int x, .int (nI 11), .ref 1] sh_10 σ2 0 0 := by
      intro σ2 x h2 hx ex
      have e1 : upd (upd m 13 (sStep (m 13))) 11 x = sBu1 m := by unfold sBu1; rw [ex]
      have h3 := h2.put (k := 11) (x := x)
      rw [e1] at h3
      have e11 : sBu1 m 11 = x := by rw [← e1, upd_at]
      unfold sBu2 at f3
      rw [e11] at f3
      refine hX _ _ _ _ _ _ _ ?_
      refine ⟨vp_in_nI (n := 11) (by omega) (by omega), ?_⟩
      refine ⟨vp_in_nI (n := 11) (by omega) (by omega), ?_⟩
      rcases hx with rfl | rfl
      · rw [if_neg (by decide +kernel)] at f3
        refine ⟨fun _ => ?_, fun h => absurd (show nI 0 = nI 1 from h) (by decide +kernel)⟩
        refine hX _ _ _ _ _ _ _ ?_
        refine ⟨vp_in_nI (n := 11) (by omega) (by omega), ?_⟩
        refine ⟨fun _ => ?_, fun h => absurd (show nI 0 = nI 1 from h) (by decide +kernel)⟩
        exact f3 _ h3
      · rw [if_pos rfl] at f3
        refine ⟨fun h => absurd rfl h, fun _ => ?_⟩
        refine g_halvesW (by omega) (by omega) h3 ?_
        intro σ4 h4
        have e112 : σ4 1 11 = nI 1 := by rw [h4.1]; unfold sHv; rw [upd_off (by omega)]; exact e11
        refine hX _ _ _ _ _ _ _ ?_
        refine ⟨vp_in_nI (n := 11) (by omega) (by omega), ?_⟩
        refine ⟨fun h => absurd e112 h, fun _ => ?_⟩
        refine g_halvesW (by omega) (by omega) h4 ?_
        intro σ5 h5
        exact f3 σ5 h5
    refine hX _ _ _ _ _ _ _ ?_
    refine ⟨fun h => absurd h (by decide +kernel), fun _ => ?_⟩
    refine g_drawW h1 ?_
    intro σ2 h2
    refine ⟨vp_in_nI (n := 7) (by omega) (by omega), ?_⟩
    have e7 : σ2 1 7 = m 7 := by rw [h2.1, upd_off (by omega)]
    refine ⟨fun h => ?_, fun h => ?_⟩
    · have h : σ2 1 7 ≤ sRm (sDw (sStep (m 13))) := h
      rw [e7] at h
      refine hX _ _ _ _ _ _ _ ?_
      exact f1 σ2 (nI 0) h2 b01_0 (if_pos h).symm
    · have h : ¬ σ2 1 7 ≤ sRm (sDw (sStep (m 13))) := h
      rw [e7] at h
      exact f1 σ2 (nI 1) h2 b01_1 (if_neg h).symm
  have calm : dr = false → ∀ σ1, MW σ0 (sCs ls (sFB ls f n) n nc) σ1 → X 74 [some (.ref 0), some (.int u), none, none] [] sh_10 σ1 0 0 := by
    intro hdr σ1 h1
    unfold sDay0 at fin
    rw [hdr] at fin hu
    rw [if_neg (by decide)] at fin hu
    subst hu
    refine hX _ _ _ _ _ _ _ ?_
    refine ⟨fun _ => ?_, fun h => absurd rfl h⟩
    exact fin σ1 h1
  have carts : ∀ j c σ1, nc - c = j → c ≤ nc → MW σ0 (sCs ls (sFB ls f n) n c) σ1 → X 53 [some (.ref 0), some (.int u), some (.int (nI c)), none] [] sh_10 σ1 0 0 := by
    intro j
    induction j with
    | zero =>
      intro c σ1 hj hc h1
      obtain ⟨hB1, -⟩ := sCs_ok hO hl hBf c hc
      have e4 : σ1 1 4 = nI nc := by rw [h1.1]; exact hB1.2.1.1
      have ec : c = nc := by omega
      subst ec
      refine hX _ _ _ _ _ _ _ ?_
      refine ⟨vp_in_nI (n := 4) (by omega) (by omega), ?_⟩
      refine b_ge rfl e4 (by omega) (by omega) (fun _ => ?_) (fun h => by omega)
      cases hd : dr with
      | true => exact burn hd σ1 h1
      | false => exact calm hd σ1 h1
    | succ j ih =>
      intro c σ1 hj hc h1
      obtain ⟨hB1, hK1⟩ := sCs_ok hO hl hBf c hc
      have e4 : σ1 1 4 = nI nc := by rw [h1.1]; exact hB1.2.1.1
      refine hX _ _ _ _ _ _ _ ?_
      refine ⟨vp_in_nI (n := 4) (by omega) (by omega), ?_⟩
      refine b_ge rfl e4 (by omega) (by omega) (fun h => by omega) (fun _ => ?_)
      refine g_drives hO hl hB1 (hL.kd (hKf.trans hK1)) (by omega) h1 ?_
      intro σ2 h2
      have h9 := ih (c + 1) σ2 (by omega) (by omega) h2
      rw [← nI_1 c] at h9
      exact h9
  have bins : ∀ j k σ1, n - k = j → k ≤ n → MW σ0 (sFB ls f k) σ1 → X 2 [some (.ref 0), some (.int u), some (.int (nI k)), none] [] sh_10 σ1 0 0 := by
    intro j
    induction j with
    | zero =>
      intro k σ1 hj hk h1
      obtain ⟨hB1, -⟩ := sFB_ok hO hl hB k hk
      have e3 : σ1 1 3 = nI n := by rw [h1.1]; exact hB1.1.1
      have ek : k = n := by omega
      subst ek
      refine hX _ _ _ _ _ _ _ ?_
      refine ⟨vp_in_nI (n := 3) (by omega) (by omega), ?_⟩
      refine b_ge rfl e3 (by omega) (by omega) (fun _ => ?_) (fun h => by omega)
      refine hX _ _ _ _ _ _ _ ?_
      exact carts _ 0 σ1 rfl (Nat.zero_le _) h1
    | succ j ih =>
      intro k σ1 hj hk h1
      obtain ⟨hB1, hK1⟩ := sFB_ok hO hl hB k hk
      have e3 : σ1 1 3 = nI n := by rw [h1.1]; exact hB1.1.1
      have ek : nI 20 + nI 9 * nI k + nI 2 = nI (22 + 9 * k) := by rw [nI_mul, nI_add, nI_add]; congr 1; omega
      refine hX _ _ _ _ _ _ _ ?_
      refine ⟨vp_in_nI (n := 3) (by omega) (by omega), ?_⟩
      refine b_ge rfl e3 (by omega) (by omega) (fun h => by omega) (fun _ => ?_)
      refine g_fillsOf rfl (by omega) h1 (hL.kd hK1) ?_
      intro σ2 h2
      refine g_of (w := 2) (by omega) (by omega) ?_
      refine g_lesser ?_
      refine ⟨vin ek (by omega) (by omega), ?_⟩
      have h3 : MW σ0 (sFB ls f (k + 1)) (mput σ2 1 (nI 20 + nI 9 * nI k + nI 2).toNatClampNeg (sMin (nI 99) (σ2 1 (20 + 9 * k + 2) + sFi ls (sFB ls f k) k))) := by
        rw [clN ek (by omega), h2.1, show 20 + 9 * k + 2 = 22 + 9 * k by omega]
        exact h2.put
      have h9 := ih (k + 1) _ (by omega) (by omega) h3
      rw [← nI_1 k] at h9
      exact h9
  refine hX _ _ _ _ _ _ _ ?_
  exact bins _ 0 σ rfl (Nat.zero_le _) hW
theorem g_goes {N : Nat} {dr : Bool} {u : Int32} (hu : u = (if dr = true then nI 1 else nI 0)) (hN : N < 1000) (hO : lOks ls) (hl : ls.length ≤ 12) (hB : BD f n nc ns nd) (hL : LTx f ls) (hW : MW σ0 f σ) (hq : ∀ σ', MW σ0 (sDays ls dr n nc nd f N).1 σ' → Q (.inl (some (.int (sDays ls dr n nc nd f N).2))) sh_10 σ') : mD (d + 35) 144 [.ref 0, .int (nI N), .int u] sh_10 σ Q := by
  refine ⟨rfl, fun X hX => ?_⟩
  have loop : ∀ j k σ1, N - k = j → k ≤ N → MW σ0 (sDays ls dr n nc nd f k).1 σ1 → X 5 [some (.ref 0), some (.int (nI N)), some (.int u), some (.int (sDays ls dr n nc nd f k).2), some (.int (nI k))] [] sh_10 σ1 0 0 := by
    intro j
    induction j with
    | zero =>
      intro k σ1 hj hk h1
      have ek : k = N := by omega
      subst ek
      refine hX _ _ _ _ _ _ _ ?_
      refine b_ge rfl rfl (by omega) (by omega) (fun _ => ?_) (fun h => by omega)
      refine hX _ _ _ _ _ _ _ ?_
      exact hq σ1 h1
    | succ j ih =>
      intro k σ1 hj hk h1
      obtain ⟨hB1, hK1⟩ := sDays_ok (dr := dr) hO hl hB k
      refine hX _ _ _ _ _ _ _ ?_
      refine b_ge rfl rfl (by omega) (by omega) (fun h => by omega) (fun _ => ?_)
      refine g_passes hu hO hl hB1 (hL.kd hK1) h1 ?_
      intro σ2 h2
      have h9 := ih (k + 1) σ2 (by omega) (by omega) h2
      rw [← nI_1 k] at h9
      exact h9
  refine hX _ _ _ _ _ _ _ ?_
  exact loop _ 0 σ rfl (Nat.zero_le _) hW
end MDB
