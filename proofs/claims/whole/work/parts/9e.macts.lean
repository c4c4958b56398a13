/-! THE MODEL: spans; acts -/
section MAC
variable {d : Nat} {σ σ0 : mSg} {f : Nat → Int32} {Q : mPst} {ls : List lLn} {n nc ns nd a : Nat} {row : Nat → Nat → Int32}
theorem spA_1 {ls : List lLn} {m : Nat → Int32} {N : Nat} {most : Bool} (hO : lOks ls) (hl : ls.length ≤ 12) (hB : BD m n nc ns nd) : spA ls m n nc nd N most 1 = tlN ls m n nc nd N 1 := by
  have h := (tlN_ok (s := 1) (N := N) hO hl hB).2
  cases most with
  | true =>
    show max 0 (tlN ls m n nc nd N (0 + 1)) = _
    exact Nat.zero_max _
  | false =>
    show min 9999 (tlN ls m n nc nd N (0 + 1)) = _
    exact Nat.min_eq_right h
theorem g_span {p u : Int32} {most : Bool} (hu : u = (if most = true then nI 1 else nI 0)) (hO : lOks ls) (hl : ls.length ≤ 12) (hB : BD (σ 1) n nc ns nd) (hL : LTx (σ 1) ls) (q1 : ∀ k, k ≤ 60 → p = nI k → ∀ σ', MX σ (σ 1) (nI 0) σ' → Q (.inl (some (.int (nI (spA ls (σ 1) n nc nd k most 6))))) sh_10 σ') (q0 : (¬ ∃ s, 0 ≤ s ∧ s ≤ 60 ∧ p = nI s) → ∀ σ', MX σ (σ 1) (nI 1) σ' → Q (.inl (some (.int (nI 0)))) sh_10 σ') : mD (d + 36) 217 [.ref 0, .int p, .int u] sh_10 σ Q := by
  refine ⟨rfl, fun X hX => ?_⟩
  refine hX _ _ _ _ _ _ _ ?_
  refine g_isIn (fun h => ?_) (fun h => ?_)
  · have h : sIn p (nI 0) (nI 60) := h
    rw [sIn2_iff (by omega) (by omega)] at h
    obtain ⟨N, -, k2, rfl⟩ := h
    have hq := q1 N k2 rfl
    refine ⟨fun _ => ?_, fun z => absurd z (by decide +kernel)⟩
    refine hX _ _ _ _ _ _ _ ?_
    refine hX _ _ _ _ _ _ _ ?_
    refine ⟨fun _ => ?_, fun z => absurd (show nI 0 ≤ 0 from by decide +kernel) z⟩
    have loop : ∀ r k acc W, 6 - k = r → k ≤ 6 → acc = (if k = 0 then -(nI 1) else nI (spA ls (σ 1) n nc nd N most k)) → (∀ i, i < 423 → W 3 i = σ 1 i) → W 1 = σ 1 → MX σ (σ 1) (nI 0) W → X 37 [some (.ref 0), some (.int (nI N)), some (.int u), some (.int acc), some (.int (nI (k + 1))), none, none] [] sh_10 W 0 0 := by
      intro r
      induction r with
      | zero =>
        intro k acc W hr hk ha h3 h1 hM
        have ek : k = 6 := by omega
        subst ek
        rw [if_neg (by omega)] at ha
        subst ha
        refine hX _ _ _ _ _ _ _ ?_
        refine b_gt rfl (b := 6) rfl (by omega) (by omega) (fun _ => ?_) (fun h => by omega)
        refine hX _ _ _ _ _ _ _ ?_
        exact hq W hM
      | succ r ih =>
        intro k acc W hr hk ha h3 h1 hM
        have hsp := spA_le (most := most) (N := N) hO hl hB k
        have htl := tlN_ok (s := k + 1) (N := N) hO hl hB
        have hB1 : BD (upd (σ 1) 13 (nI (k + 1))) n nc ns nd := hB.u0 (by unfold rel; omega)
        have hL1 : LTx (upd (σ 1) 13 (nI (k + 1))) ls := hL.off (fun i hi => upd_off (by omega))
        have hk2 := (sDays_ok (dr := true) hO hl hB1 N).2
        have e13 : mput W 1 13 (nI (k + 1)) 1 = upd (σ 1) 13 (nI (k + 1)) := by rw [mput_eq, h1]
        have hW : MW (mput W 1 13 (nI (k + 1))) (upd (σ 1) 13 (nI (k + 1))) (mput W 1 13 (nI (k + 1))) := by
          have := MW.refl (mput W 1 13 (nI (k + 1)))
          rw [e13] at this
          exact this
        refine hX _ _ _ _ _ _ _ ?_
        refine b_gt rfl (b := 6) rfl (by omega) (by omega) (fun h => by omega) (fun _ => ?_)
        refine ⟨vp_in_nI (n := 13) (by omega) (by omega), ?_⟩
        refine g_goes (dr := true) rfl (by omega) hO hl hB1 hL1 hW (fun W2 h2 => ?_)
        refine ⟨vp_in_nI (n := 9) (by omega) (by omega), ?_⟩
        have e9 : W2 1 9 = nI (tlN ls (σ 1) n nc nd N (k + 1)) := by rw [h2.1]; exact htl.1
        refine g_comesBack (f := σ 1) (fun i hi => ?_) (fun i hi => ?_) (fun W3 p3 p4 => ?_)
        · rw [h2.2.1 3 (by omega) (by omega), mput_ne (by omega)]; exact h3 i hi
        · rw [h2.1, hk2 i (by unfold kdp; omega), upd_off (by omega)]
        · have h33 : ∀ i, i < 423 → W3 3 i = σ 1 i := fun i hi => by rw [p3 3 (by omega), h2.2.1 3 (by omega) (by omega), mput_ne (by omega)]; exact h3 i hi
          have hM3 : MX σ (σ 1) (nI 0) W3 := by
            have e : ∀ c, c ≠ 1 → 2 ≤ c → c ≤ 5 → W3 c = W c := fun c h1 h2' h5 => (p3 c h1).trans ((h2.2.1 c h2' h5).trans (mput_ne h1))
            have c0 := p3 0 (by omega)
            exact ⟨p4, (e 2 (by omega) (by omega) (by omega)).trans hM.2.1, (e 4 (by omega) (by omega) (by omega)).trans hM.2.2.1, (e 5 (by omega) (by omega) (by omega)).trans hM.2.2.2.1, (congrFun c0 0).trans (h2.2.2.1.trans hM.2.2.2.2.1), (congrFun c0 3).trans (h2.2.2.2.1.trans hM.2.2.2.2.2.1), (congrFun c0 6).trans (h2.2.2.2.2.1.trans hM.2.2.2.2.2.2.1), (congrFun c0 8).trans (h2.2.2.2.2.2.1.trans hM.2.2.2.2.2.2.2.1), (congrFun c0 12).trans (h2.2.2.2.2.2.2.1.trans hM.2.2.2.2.2.2.2.2.1), fun z => k15.e (congrFun c0 15) (h2.2.2.2.2.2.2.2 (hM.2.2.2.2.2.2.2.2.2 z))⟩
          have nxt : ∀ x, x = nI (spA ls (σ 1) n nc nd N most (k + 1)) → X 103 [some (.ref 0), some (.int (nI N)), some (.int u), none, some (.int (nI (k + 1))), none, none] [.int x] sh_10 W3 0 0 := by
            intro x hx
            refine hX _ _ _ _ _ _ _ ?_
            have h9 := ih (k + 1) x W3 (by omega) (by omega) (by rw [if_neg (by omega)]; exact hx) h33 p4 hM3
            rw [← nI_1 (k + 1)] at h9
            exact h9
          by_cases k0 : k = 0
          · subst k0
            rw [if_pos rfl] at ha
            subst ha
            refine ⟨fun z => absurd rfl z, fun _ => ?_⟩
            have e : W2 1 9 = nI (spA ls (σ 1) n nc nd N most (0 + 1)) := by rw [e9, spA_1 hO hl hB]
            exact nxt _ e
          · rw [if_neg k0] at ha
            subst ha
            refine ⟨fun _ => ?_, fun z => absurd z (oN_ne (by omega))⟩
            refine hX _ _ _ _ _ _ _ ?_
            subst hu
            cases most with
            | true =>
              refine ⟨fun z => absurd z (by decide +kernel), fun _ => ?_⟩
              refine g_greater ?_
              have em : spA ls (σ 1) n nc nd N true (k + 1) = max (spA ls (σ 1) n nc nd N true k) (tlN ls (σ 1) n nc nd N (k + 1)) := rfl
              have e : sMax (nI (spA ls (σ 1) n nc nd N true k)) (W2 1 9) = nI (spA ls (σ 1) n nc nd N true (k + 1)) := by rw [em, ← sMax_nI (by omega) (by omega), ← e9]
              exact nxt _ e
            | false =>
              refine ⟨fun _ => ?_, fun z => absurd rfl z⟩
              refine hX _ _ _ _ _ _ _ ?_
              refine g_lesser ?_
              have em : spA ls (σ 1) n nc nd N false (k + 1) = min (spA ls (σ 1) n nc nd N false k) (tlN ls (σ 1) n nc nd N (k + 1)) := rfl
              have e : sMin (nI (spA ls (σ 1) n nc nd N false k)) (W2 1 9) = nI (spA ls (σ 1) n nc nd N false (k + 1)) := by rw [em, ← sMin_nI (by omega) (by omega), ← e9]
              exact nxt _ e
    refine hX _ _ _ _ _ _ _ ?_
    refine g_putsAside (σ := mput σ 0 0 (nI 0)) (fun W p1 p2 => ?_)
    have c0 := p1 0 (by omega)
    exact loop _ 0 _ W rfl (by omega) rfl p2 (p1 1 (by omega)) ⟨p1 1 (by omega), p1 2 (by omega), p1 4 (by omega), p1 5 (by omega), congrFun c0 0, congrFun c0 3, congrFun c0 6, congrFun c0 8, congrFun c0 12, k15.e (congrFun c0 15)⟩
  · have h : ¬ sIn p (nI 0) (nI 60) := h
    rw [sIn2_iff (by omega) (by omega)] at h
    refine ⟨fun z => absurd rfl z, fun _ => ?_⟩
    refine hX _ _ _ _ _ _ _ ?_
    refine ⟨fun z => absurd (show nI 1 ≤ 0 from z) (by decide +kernel), fun _ => ?_⟩
    exact q0 h _ MX.th
theorem g_hiresW {c : Nat} {x y : Int32} (h4 : f 4 = nI c) (hc : c < 3) (hW : MW σ0 f σ) (hq : ∀ σ', MW σ0 (yaC f c x y) σ' → Q (.inl none) sh_10 σ') : mD (d + 1) 108 [.ref 0, .int x, .int y] sh_10 σ Q := by
  have h := g_hires (d := d) (σ := σ) (f := f) (a := x) (b := y) h4 hc (hq _ (hW.mk2 _))
  rw [hW.eq] at h
  exact h
theorem g_buysW {c : Nat} {x : Int32} (h4 : f 5 = nI c) (hc : c < 4) (hW : MW σ0 f σ) (hq : ∀ σ', MW σ0 (yaM f c x) σ' → Q (.inl none) sh_10 σ') : mD (d + 1) 110 [.ref 0, .int x] sh_10 σ Q := by
  have h := g_buys (d := d) (σ := σ) (f := f) (a := x) h4 hc (hq _ (hW.mk2 _))
  rw [hW.eq] at h
  exact h
theorem g_takesW {c : Nat} {x y z w : Int32} (h4 : f 6 = nI c) (hc : c < 6) (hW : MW σ0 f σ) (hq : ∀ σ', MW σ0 (yaD f c x y z w) σ' → Q (.inl none) sh_10 σ') : mD (d + 1) 112 [.ref 0, .int x, .int y, .int z, .int w] sh_10 σ Q := by
  have h := g_takes (d := d) (σ := σ) (f := f) (a1 := x) (a2 := y) (a3 := z) (a4 := w) h4 hc (hq _ (hW.mk2 _))
  rw [hW.eq] at h
  exact h
theorem MX.th2 {x y : Int32} : MX σ (σ 1) x (mput (mput σ 0 0 y) 0 0 x) := ⟨rfl, rfl, rfl, rfl, rfl, rfl, rfl, rfl, rfl, fun z => z⟩
theorem g_tip {p : Int32} (hB : BD (σ 1) n nc ns nd) (hM : MM σ a row) (q1 : ∀ s w, s < n → p = nI s → w ≤ 99 → σ 1 (22 + 9 * s) = nI w → 1 ≤ w → ∀ σ', MA σ (sFe (σ 1) s (nI 1) 6) (nI 0) (min 12 (a + 1)) (psh (σ 1) row) σ' → Q (.inl (some (.int (sFe (σ 1) s (nI 1) 6 (22 + 9 * s))))) sh_10 σ') (q0 : (¬ ∃ s, s < n ∧ p = nI s) → ∀ σ', MX σ (σ 1) (nI 1) σ' → Q (.inl (some (.int (nI 0)))) sh_10 σ') (q2 : ∀ s, s < n → p = nI s → σ 1 (22 + 9 * s) = nI 0 → ∀ σ', MX σ (σ 1) (nI 2) σ' → Q (.inl (some (.int (nI 0)))) sh_10 σ') : mD (d + 3) 161 [.ref 0, .int p] sh_10 σ Q := by
  have hn := hB.1.2
  refine ⟨rfl, fun X hX => ?_⟩
  refine hX _ _ _ _ _ _ _ ?_
  refine g_isStreet (fun h => ?_) (fun h => ?_)
  · rw [hB.1.1, sIn_iff (by omega)] at h
    obtain ⟨s, hs, rfl⟩ := h
    obtain ⟨-, -, ⟨w, hw, ew⟩, -⟩ := hB.2.2.2.2.1 s hs
    refine ⟨fun _ => ?_, fun z => absurd z (by decide +kernel)⟩
    refine hX _ _ _ _ _ _ _ ?_
    refine hX _ _ _ _ _ _ _ ?_
    refine ⟨fun _ => ?_, fun z => absurd (show nI 0 ≤ 0 from by decide +kernel) z⟩
    refine hX _ _ _ _ _ _ _ ?_
    refine g_of (w := 2) (by omega) (by omega) ?_
    refine b_ne (show mput σ 0 0 (nI 0) 1 (20 + 9 * s + 2) = nI w by rw [mput_ne (by omega), show 20 + 9 * s + 2 = 22 + 9 * s by omega]; exact ew) (b := 0) rfl (by omega) (by omega) (fun w0 => ?_) (fun w0 => ?_)
    · refine hX _ _ _ _ _ _ _ ?_
      refine hX _ _ _ _ _ _ _ ?_
      refine ⟨fun _ => ?_, fun z => absurd (show nI 0 ≤ 0 from by decide +kernel) z⟩
      refine hX _ _ _ _ _ _ _ ?_
      refine g_rem (σ := mput (mput σ 0 0 (nI 0)) 0 0 (nI 0)) (hM.mx rfl rfl) (fun W hA => ?_)
      have hA : MA σ (σ 1) (nI 0) (min 12 (a + 1)) (psh (σ 1) row) W := hA
      refine g_unloadsW (by omega) hA.mw (fun W2 h2 => ?_)
      refine g_of (w := 2) (by omega) (by omega) ?_
      exact qi (by rw [h2.1, show 20 + 9 * s + 2 = 22 + 9 * s by omega]; rfl) (q1 s w hs rfl hw ew (by omega) W2 (hA.w h2))
    · subst w0
      refine hX _ _ _ _ _ _ _ ?_
      refine ⟨fun z => absurd (show nI 2 ≤ 0 from z) (by decide +kernel), fun _ => ?_⟩
      exact q2 s hs rfl ew _ MX.th2
  · rw [hB.1.1, sIn_iff (by omega)] at h
    refine ⟨fun z => absurd rfl z, fun _ => ?_⟩
    refine hX _ _ _ _ _ _ _ ?_
    refine ⟨fun z => absurd (show nI 1 ≤ 0 from z) (by decide +kernel), fun _ => ?_⟩
    exact q0 h _ MX.th
theorem g_drop {p : Int32} (hB : BD (σ 1) n nc ns nd) (hM : MM σ a row) (q1 : ∀ k, k < nd → p = nI k → sOpen (σ 1) k → ∀ σ', MA σ (upd (σ 1) (93 + 5 * k + 4) (nI 0)) (nI 0) (min 12 (a + 1)) (psh (σ 1) row) σ' → Q (.inl none) sh_10 σ') (q0 : (¬ ∃ s, s < nd ∧ p = nI s) → ∀ σ', MX σ (σ 1) (nI 1) σ' → Q (.inl none) sh_10 σ') (q2 : ∀ k, k < nd → p = nI k → ¬ sOpen (σ 1) k → ∀ σ', MX σ (σ 1) (nI 2) σ' → Q (.inl none) sh_10 σ') : mD (d + 3) 164 [.ref 0, .int p] sh_10 σ Q := by
  have hn := hB.2.2.2.1.2
  refine ⟨rfl, fun X hX => ?_⟩
  refine hX _ _ _ _ _ _ _ ?_
  refine g_isDeal (fun h => ?_) (fun h => ?_)
  · rw [hB.2.2.2.1.1, sIn_iff (by omega)] at h
    obtain ⟨k, hk, rfl⟩ := h
    refine ⟨fun _ => ?_, fun z => absurd z (by decide +kernel)⟩
    refine hX _ _ _ _ _ _ _ ?_
    refine hX _ _ _ _ _ _ _ ?_
    refine ⟨fun _ => ?_, fun z => absurd (show nI 0 ≤ 0 from by decide +kernel) z⟩
    refine hX _ _ _ _ _ _ _ ?_
    refine g_isOpen (by omega) (fun ho => ?_) (fun ho => ?_)
    · have ho : sOpen (σ 1) k := ho
      refine ⟨fun _ => ?_, fun z => absurd z (by decide +kernel)⟩
      refine hX _ _ _ _ _ _ _ ?_
      refine hX _ _ _ _ _ _ _ ?_
      refine ⟨fun _ => ?_, fun z => absurd (show nI 0 ≤ 0 from by decide +kernel) z⟩
      refine hX _ _ _ _ _ _ _ ?_
      refine g_sets (σ := mput (mput σ 0 0 (nI 0)) 0 0 (nI 0)) (k := 93 + 5 * k + 4) (show nI 93 + nI 5 * nI k + nI 4 = nI (93 + 5 * k + 4) by rw [nI_mul, nI_add, nI_add]) (by omega) (hM.mx rfl rfl) (fun W hA => ?_)
      exact q1 k hk rfl ho W hA
    · have ho : ¬ sOpen (σ 1) k := ho
      refine ⟨fun z => absurd rfl z, fun _ => ?_⟩
      refine hX _ _ _ _ _ _ _ ?_
      refine ⟨fun z => absurd (show nI 2 ≤ 0 from z) (by decide +kernel), fun _ => ?_⟩
      exact q2 k hk rfl ho _ MX.th2
  · rw [hB.2.2.2.1.1, sIn_iff (by omega)] at h
    refine ⟨fun z => absurd rfl z, fun _ => ?_⟩
    refine hX _ _ _ _ _ _ _ ?_
    refine ⟨fun z => absurd (show nI 1 ≤ 0 from z) (by decide +kernel), fun _ => ?_⟩
    exact q0 h _ MX.th
theorem g_fill {p : Int32} (hB : BD (σ 1) n nc ns nd) (hM : MM σ a row) (q1 : ∀ k, k < nd → p = nI k → sCan (σ 1) k (dLo (σ 1) k) (dHi (σ 1) k) → ∀ σ', MA σ (sSt (σ 1) k (dLo (σ 1) k) (dHi (σ 1) k) (nI 2)) (nI 0) (min 12 (a + 1)) (psh (σ 1) row) σ' → Q (.inl (some (.int (sSt (σ 1) k (dLo (σ 1) k) (dHi (σ 1) k) (nI 2) 9)))) sh_10 σ') (q0 : (¬ ∃ s, s < nd ∧ p = nI s) → ∀ σ', MX σ (σ 1) (nI 1) σ' → Q (.inl (some (.int (nI 0)))) sh_10 σ') (q2 : ∀ k, k < nd → p = nI k → ¬ sCan (σ 1) k (dLo (σ 1) k) (dHi (σ 1) k) → ∀ σ', MX σ (σ 1) (nI 2) σ' → Q (.inl (some (.int (nI 0)))) sh_10 σ') : mD (d + 4) 168 [.ref 0, .int p] sh_10 σ Q := by
  have hn := hB.2.2.2.1.2
  refine ⟨rfl, fun X hX => ?_⟩
  refine hX _ _ _ _ _ _ _ ?_
  refine g_isDeal (fun h => ?_) (fun h => ?_)
  · rw [hB.2.2.2.1.1, sIn_iff (by omega)] at h
    obtain ⟨k, hk, rfl⟩ := h
    obtain ⟨d1, d2, d3, d4, d5⟩ := hB.dl hk
    have bad : ¬ sCan (σ 1) k (dLo (σ 1) k) (dHi (σ 1) k) → X 43 [some (.ref 0), some (.int (nI k))] [.ref 0] sh_10 (mput σ 0 0 (nI 0)) 0 0 := by
      intro h
      refine hX _ _ _ _ _ _ _ ?_
      refine hX _ _ _ _ _ _ _ ?_
      refine ⟨fun z => absurd (show nI 2 ≤ 0 from z) (by decide +kernel), fun _ => ?_⟩
      exact q2 k hk rfl h _ MX.th2
    refine ⟨fun _ => ?_, fun z => absurd z (by decide +kernel)⟩
    refine hX _ _ _ _ _ _ _ ?_
    refine hX _ _ _ _ _ _ _ ?_
    refine ⟨fun _ => ?_, fun z => absurd (show nI 0 ≤ 0 from by decide +kernel) z⟩
    refine hX _ _ _ _ _ _ _ ?_
    refine g_isOpen (by omega) (fun ho => ?_) (fun ho => ?_)
    · have ho : sOpen (σ 1) k := ho
      refine ⟨fun z => absurd z (by decide +kernel), fun _ => ?_⟩
      refine g_hasFor (lo := dLo (σ 1) k) (hi := dHi (σ 1) k) (by omega) d1 d2 d3 d5 (by omega) (fun hh => ?_) (fun hh => ?_)
      · have hh : σ 1 (93 + 5 * k + 2) ≤ sHS (σ 1) (dLo (σ 1) k) (dHi (σ 1) k + 1 - dLo (σ 1) k) := hh
        refine ⟨fun _ => ?_, fun z => absurd z (by decide +kernel)⟩
        refine hX _ _ _ _ _ _ _ ?_
        refine hX _ _ _ _ _ _ _ ?_
        refine ⟨fun _ => ?_, fun z => absurd (show nI 0 ≤ 0 from by decide +kernel) z⟩
        refine hX _ _ _ _ _ _ _ ?_
        refine g_rem (σ := mput (mput σ 0 0 (nI 0)) 0 0 (nI 0)) (hM.mx rfl rfl) (fun W hA => ?_)
        have hA : MA σ (σ 1) (nI 0) (min 12 (a + 1)) (psh (σ 1) row) W := hA
        refine g_isFilled (by omega) d1 d2 d3 d5 d4 hA.mw (fun W2 h2 => ?_)
        refine ⟨vp_in_nI (n := 9) (by omega) (by omega), ?_⟩
        exact qi (by show _ = W2 1 9; rw [h2.1]; rfl) (q1 k hk rfl ⟨ho, hh⟩ W2 (hA.w h2))
      · have hh : ¬ σ 1 (93 + 5 * k + 2) ≤ sHS (σ 1) (dLo (σ 1) k) (dHi (σ 1) k + 1 - dLo (σ 1) k) := hh
        refine ⟨fun z => absurd rfl z, fun _ => ?_⟩
        exact bad (fun z => hh z.2)
    · have ho : ¬ sOpen (σ 1) k := ho
      refine ⟨fun _ => ?_, fun z => absurd rfl z⟩
      exact bad (fun z => ho z.1)
  · rw [hB.2.2.2.1.1, sIn_iff (by omega)] at h
    refine ⟨fun z => absurd rfl z, fun _ => ?_⟩
    refine hX _ _ _ _ _ _ _ ?_
    refine ⟨fun z => absurd (show nI 1 ≤ 0 from z) (by decide +kernel), fun _ => ?_⟩
    exact q0 h _ MX.th
theorem g_lay {p g x : Int32} (hB : BD (σ 1) n nc ns nd) (hM : MM σ a row) (q1 : ∀ s k q, s < n → p = nI s → 1 ≤ k → k ≤ 6 → g = nI k → q ≤ 9 → x = nI q → ∀ σ', MA σ (upd (σ 1) (22 + 9 * s + k) (nI q)) (nI 0) (min 12 (a + 1)) (psh (σ 1) row) σ' → Q (.inl (some (.int (σ 1 (22 + 9 * s + k))))) sh_10 σ') (q0 : ¬ ((∃ s, s < n ∧ p = nI s) ∧ ∃ k, 1 ≤ k ∧ k ≤ 6 ∧ g = nI k) → ∀ σ', MX σ (σ 1) (nI 1) σ' → Q (.inl (some (.int (nI 0)))) sh_10 σ') (q2 : ((∃ s, s < n ∧ p = nI s) ∧ ∃ k, 1 ≤ k ∧ k ≤ 6 ∧ g = nI k) → (¬ ∃ k, k < 10 ∧ x = nI k) → ∀ σ', MX σ (σ 1) (nI 2) σ' → Q (.inl (some (.int (nI 0)))) sh_10 σ') : mD (d + 3) 166 [.ref 0, .int p, .int g, .int x] sh_10 σ Q := by
  have hn := hB.1.2
  refine ⟨rfl, fun X hX => ?_⟩
  have bad : ¬ ((∃ s, s < n ∧ p = nI s) ∧ ∃ k, 1 ≤ k ∧ k ≤ 6 ∧ g = nI k) → X 16 [some (.ref 0), some (.int p), some (.int g), some (.int x)] [.ref 0] sh_10 σ 0 0 := by
    intro h
    refine hX _ _ _ _ _ _ _ ?_
    refine hX _ _ _ _ _ _ _ ?_
    refine ⟨fun z => absurd (show nI 1 ≤ 0 from z) (by decide +kernel), fun _ => ?_⟩
    refine hX _ _ _ _ _ _ _ ?_
    exact q0 h _ MX.th
  refine hX _ _ _ _ _ _ _ ?_
  refine g_isStreet (fun h => ?_) (fun h => ?_)
  · rw [hB.1.1, sIn_iff (by omega)] at h
    refine ⟨fun z => absurd z (by decide +kernel), fun _ => ?_⟩
    refine g_isGrain (fun h2 => ?_) (fun h2 => ?_)
    · rw [sIn2_iff (by omega) (by omega)] at h2
      have q3 := q2 ⟨h, h2⟩
      obtain ⟨s, hs, rfl⟩ := h
      obtain ⟨k, k1, k2, rfl⟩ := h2
      refine ⟨fun _ => ?_, fun z => absurd z (by decide +kernel)⟩
      refine hX _ _ _ _ _ _ _ ?_
      refine g_isIn (fun h3 => ?_) (fun h3 => ?_)
      · have h3 : sIn x (nI 0) (nI 9) := h3
        rw [sIn0_iff (by omega)] at h3
        obtain ⟨q, hq, rfl⟩ := h3
        refine ⟨fun _ => ?_, fun z => absurd z (by decide +kernel)⟩
        refine hX _ _ _ _ _ _ _ ?_
        refine hX _ _ _ _ _ _ _ ?_
        refine ⟨fun _ => ?_, fun z => absurd (show nI 0 ≤ 0 from by decide +kernel) z⟩
        refine hX _ _ _ _ _ _ _ ?_
        refine g_sets (σ := mput σ 0 0 (nI 0)) (k := 22 + 9 * s + k) (show nI 20 + nI 9 * nI s + nI 3 + nI k - nI 1 = nI (22 + 9 * s + k) by rw [nI_mul, nI_add, nI_add, nI_add, nI_sub (by omega)]; congr 1; omega) (by omega) (hM.mx rfl rfl) (fun W hA => ?_)
        refine hX _ _ _ _ _ _ _ ?_
        exact q1 s k q hs rfl k1 k2 rfl (by omega) rfl W hA
      · have h3 : ¬ sIn x (nI 0) (nI 9) := h3
        rw [sIn0_iff (by omega)] at h3
        refine ⟨fun z => absurd rfl z, fun _ => ?_⟩
        refine hX _ _ _ _ _ _ _ ?_
        refine ⟨fun z => absurd (show nI 2 ≤ 0 from z) (by decide +kernel), fun _ => ?_⟩
        refine hX _ _ _ _ _ _ _ ?_
        exact q3 h3 _ MX.th
    · rw [sIn2_iff (by omega) (by omega)] at h2
      refine ⟨fun z => absurd rfl z, fun _ => ?_⟩
      exact bad (fun z => h2 z.2)
  · rw [hB.1.1, sIn_iff (by omega)] at h
    refine ⟨fun _ => ?_, fun z => absurd rfl z⟩
    exact bad (fun z => h z.1)
theorem g_douse (hB : BD (σ 1) n nc ns nd) (hM : MM σ a row) (q1 : ∀ σ', MA σ (upd (σ 1) 11 (nI 0)) (nI 0) (min 12 (a + 1)) (psh (σ 1) row) σ' → Q (.inl (some (.int (σ 1 11)))) sh_10 σ') : mD (d + 3) 167 [.ref 0] sh_10 σ Q := by
  refine ⟨rfl, fun X hX => ?_⟩
  refine hX _ _ _ _ _ _ _ ?_
  refine g_sets (σ := mput σ 0 0 (nI 0)) (k := 11) rfl (by omega) (hM.mx rfl rfl) (fun W hA => ?_)
  have hq := q1 W hA
  rcases hB.2.2.2.2.2.2.2.2.2.2.1 with e | e
  · refine ⟨fun _ => ?_, fun z => absurd (show σ 1 11 = nI 1 from z) (by rw [e]; decide +kernel)⟩
    refine hX _ _ _ _ _ _ _ ?_
    refine hX _ _ _ _ _ _ _ ?_
    exact ⟨Or.inl rfl, qi e hq⟩
  · refine ⟨fun z => absurd e z, fun _ => ?_⟩
    refine hX _ _ _ _ _ _ _ ?_
    exact ⟨Or.inr rfl, qi e hq⟩
theorem g_buy {p : Int32} (hB : BD (σ 1) n nc ns nd) (hM : MM σ a row) (q1 : ∀ g t, 2 ≤ g → g ≤ 6 → p = nI g → ns < 4 → 5 ≤ t → t ≤ 9999 → σ 1 9 = nI t → ∀ σ', MA σ (yaM (upd (σ 1) 9 (σ 1 9 - nI 5)) ns (nI g)) (nI 0) (min 12 (a + 1)) (psh (σ 1) row) σ' → Q (.inl (some (.int (nI ns)))) sh_10 σ') (q0 : (¬ ∃ s, 2 ≤ s ∧ s ≤ 6 ∧ p = nI s) → ∀ σ', MX σ (σ 1) (nI 1) σ' → Q (.inl (some (.int (nI 0)))) sh_10 σ') (q2 : (∃ s, 2 ≤ s ∧ s ≤ 6 ∧ p = nI s) → ¬ (ns < 4 ∧ nI 5 ≤ σ 1 9) → ∀ σ', MX σ (σ 1) (nI 2) σ' → Q (.inl (some (.int (nI 0)))) sh_10 σ') : mD (d + 3) 162 [.ref 0, .int p] sh_10 σ Q := by
  have hn := hB.2.2.1.2
  obtain ⟨t, ht, et⟩ := hB.2.2.2.2.2.2.2.2.2.1
  refine ⟨rfl, fun X hX => ?_⟩
  refine hX _ _ _ _ _ _ _ ?_
  refine g_isIn (fun h => ?_) (fun h => ?_)
  · have h : sIn p (nI 2) (nI 6) := h
    rw [sIn2_iff (by omega) (by omega)] at h
    have q3 := q2 h
    obtain ⟨g, g1, g2, rfl⟩ := h
    have bad : ¬ (ns < 4 ∧ nI 5 ≤ σ 1 9) → X 36 [some (.ref 0), some (.int (nI g)), none] [.ref 0] sh_10 σ 0 0 := by
      intro h
      refine hX _ _ _ _ _ _ _ ?_
      refine hX _ _ _ _ _ _ _ ?_
      refine ⟨fun z => absurd (show nI 2 ≤ 0 from z) (by decide +kernel), fun _ => ?_⟩
      exact q3 h _ MX.th
    refine ⟨fun _ => ?_, fun z => absurd z (by decide +kernel)⟩
    refine hX _ _ _ _ _ _ _ ?_
    refine ⟨vp_in_nI (n := 5) (by omega) (by omega), ?_⟩
    refine b_eq hB.2.2.1.1 (b := 4) rfl (by omega) (by omega) (fun h => bad (fun z => by omega)) (fun h4 => ?_)
    refine ⟨vp_in_nI (n := 9) (by omega) (by omega), ?_⟩
    refine b_ge et (b := 5) rfl (by omega) (by omega) (fun h5 => ?_) (fun h => bad (fun z => ?_))
    · refine hX _ _ _ _ _ _ _ ?_
      refine hX _ _ _ _ _ _ _ ?_
      refine ⟨fun _ => ?_, fun z => absurd (show nI 0 ≤ 0 from by decide +kernel) z⟩
      refine hX _ _ _ _ _ _ _ ?_
      refine ⟨vp_in_nI (n := 9) (by omega) (by omega), ?_⟩
      refine g_sets (σ := mput σ 0 0 (nI 0)) (k := 9) rfl (by omega) (hM.mx rfl rfl) (fun W hA => ?_)
      have hA : MA σ (upd (σ 1) 9 (σ 1 9 - nI 5)) (nI 0) (min 12 (a + 1)) (psh (σ 1) row) W := hA
      refine g_buysW (c := ns) (by rw [upd_off (by omega)]; exact hB.2.2.1.1) (by omega) hA.mw (fun W2 h2 => ?_)
      refine ⟨vp_in_nI (n := 5) (by omega) (by omega), ?_⟩
      refine qi ?_ (q1 g t g1 g2 rfl (by omega) h5 ht et W2 (hA.w h2))
      show _ = W2 1 5 - nI 1
      rw [h2.1]
      show nI ns = nI (ns + 1) - nI 1
      rw [nI_sub (by omega), Nat.add_sub_cancel]
    · rw [et, nI_leI (by omega) (by omega)] at z
      omega
  · have h : ¬ sIn p (nI 2) (nI 6) := h
    rw [sIn2_iff (by omega) (by omega)] at h
    refine ⟨fun z => absurd rfl z, fun _ => ?_⟩
    refine hX _ _ _ _ _ _ _ ?_
    refine ⟨fun z => absurd (show nI 1 ≤ 0 from z) (by decide +kernel), fun _ => ?_⟩
    exact q0 h _ MX.th
theorem g_hire {p g : Int32} (hB : BD (σ 1) n nc ns nd) (hM : MM σ a row) (q1 : ∀ x y, 1 ≤ x → x ≤ 9 → p = nI x → 1 ≤ y → y ≤ 99 → g = nI y → nc < 3 → ∀ σ', MA σ (yaC (σ 1) nc (nI x) (nI y)) (nI 0) (min 12 (a + 1)) (psh (σ 1) row) σ' → Q (.inl (some (.int (nI nc)))) sh_10 σ') (q0 : ¬ ((∃ s, 1 ≤ s ∧ s ≤ 9 ∧ p = nI s) ∧ ∃ k, 1 ≤ k ∧ k ≤ 99 ∧ g = nI k) → ∀ σ', MX σ (σ 1) (nI 1) σ' → Q (.inl (some (.int (nI 0)))) sh_10 σ') (q2 : ((∃ s, 1 ≤ s ∧ s ≤ 9 ∧ p = nI s) ∧ ∃ k, 1 ≤ k ∧ k ≤ 99 ∧ g = nI k) → nc = 3 → ∀ σ', MX σ (σ 1) (nI 2) σ' → Q (.inl (some (.int (nI 0)))) sh_10 σ') : mD (d + 3) 165 [.ref 0, .int p, .int g] sh_10 σ Q := by
  have hn := hB.2.1.2
  refine ⟨rfl, fun X hX => ?_⟩
  have bad : ¬ ((∃ s, 1 ≤ s ∧ s ≤ 9 ∧ p = nI s) ∧ ∃ k, 1 ≤ k ∧ k ≤ 99 ∧ g = nI k) → X 21 [some (.ref 0), some (.int p), some (.int g)] [.ref 0] sh_10 σ 0 0 := by
    intro h
    refine hX _ _ _ _ _ _ _ ?_
    refine hX _ _ _ _ _ _ _ ?_
    refine ⟨fun z => absurd (show nI 1 ≤ 0 from z) (by decide +kernel), fun _ => ?_⟩
    exact q0 h _ MX.th
  refine hX _ _ _ _ _ _ _ ?_
  refine g_isIn (fun h => ?_) (fun h => ?_)
  · have h : sIn p (nI 1) (nI 9) := h
    rw [sIn2_iff (by omega) (by omega)] at h
    refine ⟨fun z => absurd z (by decide +kernel), fun _ => ?_⟩
    refine g_isIn (fun h2 => ?_) (fun h2 => ?_)
    · have h2 : sIn g (nI 1) (nI 99) := h2
      rw [sIn2_iff (by omega) (by omega)] at h2
      have q3 := q2 ⟨h, h2⟩
      obtain ⟨x, x1, x2, rfl⟩ := h
      obtain ⟨y, y1, y2, rfl⟩ := h2
      refine ⟨fun _ => ?_, fun z => absurd z (by decide +kernel)⟩
      refine hX _ _ _ _ _ _ _ ?_
      refine ⟨vp_in_nI (n := 4) (by omega) (by omega), ?_⟩
      refine b_ne hB.2.1.1 (b := 3) rfl (by omega) (by omega) (fun h3 => ?_) (fun h3 => ?_)
      · refine hX _ _ _ _ _ _ _ ?_
        refine hX _ _ _ _ _ _ _ ?_
        refine ⟨fun _ => ?_, fun z => absurd (show nI 0 ≤ 0 from by decide +kernel) z⟩
        refine hX _ _ _ _ _ _ _ ?_
        refine g_rem (σ := mput σ 0 0 (nI 0)) (hM.mx rfl rfl) (fun W hA => ?_)
        have hA : MA σ (σ 1) (nI 0) (min 12 (a + 1)) (psh (σ 1) row) W := hA
        refine g_hiresW hB.2.1.1 (by omega) hA.mw (fun W2 h2 => ?_)
        refine ⟨vp_in_nI (n := 4) (by omega) (by omega), ?_⟩
        refine qi ?_ (q1 x y x1 x2 rfl y1 y2 rfl (by omega) W2 (hA.w h2))
        show _ = W2 1 4 - nI 1
        rw [h2.1]
        show nI nc = nI (nc + 1) - nI 1
        rw [nI_sub (by omega), Nat.add_sub_cancel]
      · refine hX _ _ _ _ _ _ _ ?_
        refine ⟨fun z => absurd (show nI 2 ≤ 0 from z) (by decide +kernel), fun _ => ?_⟩
        exact q3 h3 _ MX.th
    · have h2 : ¬ sIn g (nI 1) (nI 99) := h2
      rw [sIn2_iff (by omega) (by omega)] at h2
      refine ⟨fun z => absurd rfl z, fun _ => ?_⟩
      exact bad (fun z => h2 z.2)
  · have h : ¬ sIn p (nI 1) (nI 9) := h
    rw [sIn2_iff (by omega) (by omega)] at h
    refine ⟨fun _ => ?_, fun z => absurd rfl z⟩
    exact bad (fun z => h z.1)
theorem g_take {l h q p : Int32} (hB : BD (σ 1) n nc ns nd) (hM : MM σ a row) (q1 : ∀ lo hi qn pn, okD l h q p lo hi qn pn → nd < 6 → ∀ σ', MA σ (yaD (σ 1) nd (nI lo) (nI hi) (nI qn) (nI pn)) (nI 0) (min 12 (a + 1)) (psh (σ 1) row) σ' → Q (.inl (some (.int (nI nd)))) sh_10 σ') (q0 : (¬ ∃ lo hi qn pn, okD l h q p lo hi qn pn) → ∀ σ', MX σ (σ 1) (nI 1) σ' → Q (.inl (some (.int (nI 0)))) sh_10 σ') (q2 : (∃ lo hi qn pn, okD l h q p lo hi qn pn) → nd = 6 → ∀ σ', MX σ (σ 1) (nI 2) σ' → Q (.inl (some (.int (nI 0)))) sh_10 σ') : mD (d + 3) 163 [.ref 0, .int l, .int h, .int q, .int p] sh_10 σ Q := by
  have hn := hB.2.2.2.1.2
  refine ⟨rfl, fun X hX => ?_⟩
  have bad : (¬ ∃ lo hi qn pn, okD l h q p lo hi qn pn) → X 44 [some (.ref 0), some (.int l), some (.int h), some (.int q), some (.int p), none] [] sh_10 σ 0 0 := by
    intro z
    refine hX _ _ _ _ _ _ _ ?_
    refine hX _ _ _ _ _ _ _ ?_
    refine ⟨fun z => absurd rfl z, fun _ => ?_⟩
    refine hX _ _ _ _ _ _ _ ?_
    refine ⟨fun z => absurd (show nI 1 ≤ 0 from z) (by decide +kernel), fun _ => ?_⟩
    exact q0 z _ MX.th
  refine hX _ _ _ _ _ _ _ ?_
  refine g_isGrain (fun a1 => ?_) (fun a1 => ?_)
  rotate_left
  · rw [sIn2_iff (by omega) (by omega)] at a1
    refine ⟨fun _ => bad ?_, fun z => absurd rfl z⟩
    rintro ⟨lo, hi, qn, pn, b1, b2, b3, b4, b5, b6, b7, b8, b9, b10⟩
    exact a1 ⟨lo, b1, by omega, b7⟩
  rw [sIn2_iff (by omega) (by omega)] at a1
  obtain ⟨lo, lo1, lo2, rfl⟩ := a1
  refine ⟨fun z => absurd z (by decide +kernel), fun _ => ?_⟩
  refine g_isGrain (fun a1 => ?_) (fun a1 => ?_)
  rotate_left
  · rw [sIn2_iff (by omega) (by omega)] at a1
    refine ⟨fun _ => bad ?_, fun z => absurd rfl z⟩
    rintro ⟨lo, hi, qn, pn, b1, b2, b3, b4, b5, b6, b7, b8, b9, b10⟩
    exact a1 ⟨hi, by omega, b3, b8⟩
  rw [sIn2_iff (by omega) (by omega)] at a1
  obtain ⟨hi, hi1, hi2, rfl⟩ := a1
  refine ⟨fun z => absurd z (by decide +kernel), fun _ => ?_⟩
  refine b_lt rfl rfl (by omega) (by omega) (fun z => bad ?_) (fun hlh => ?_)
  · rintro ⟨lo', hi', qn, pn, b1, b2, b3, b4, b5, b6, b7, b8, b9, b10⟩
    have c1 := (nI_eq (by omega) (by omega)).mp b7
    have c2 := (nI_eq (by omega) (by omega)).mp b8
    omega
  refine g_isIn (fun a1 => ?_) (fun a1 => ?_)
  rotate_left
  · have a1 : ¬ sIn q (nI 1) (nI 99) := a1
    rw [sIn2_iff (by omega) (by omega)] at a1
    refine ⟨fun _ => bad ?_, fun z => absurd rfl z⟩
    rintro ⟨lo, hi, qn, pn, b1, b2, b3, b4, b5, b6, b7, b8, b9, b10⟩
    exact a1 ⟨qn, b4, b5, b9⟩
  have a1 : sIn q (nI 1) (nI 99) := a1
  rw [sIn2_iff (by omega) (by omega)] at a1
  obtain ⟨qn, qn1, qn2, rfl⟩ := a1
  refine ⟨fun z => absurd z (by decide +kernel), fun _ => ?_⟩
  refine g_isIn (fun a1 => ?_) (fun a1 => ?_)
  rotate_left
  · have a1 : ¬ sIn p (nI 0) (nI 9) := a1
    rw [sIn2_iff (by omega) (by omega)] at a1
    refine ⟨fun _ => bad ?_, fun z => absurd rfl z⟩
    rintro ⟨lo, hi, qn, pn, b1, b2, b3, b4, b5, b6, b7, b8, b9, b10⟩
    exact a1 ⟨pn, by omega, b6, b10⟩
  have a1 : sIn p (nI 0) (nI 9) := a1
  rw [sIn2_iff (by omega) (by omega)] at a1
  obtain ⟨pn, pn1, pn2, rfl⟩ := a1
  have ok : okD (nI lo) (nI hi) (nI qn) (nI pn) lo hi qn pn := ⟨lo1, hlh, hi2, qn1, qn2, pn2, rfl, rfl, rfl, rfl⟩
  refine ⟨fun z => absurd z (by decide +kernel), fun _ => ?_⟩
  refine hX _ _ _ _ _ _ _ ?_
  refine ⟨fun _ => ?_, fun z => absurd z (by decide +kernel)⟩
  refine hX _ _ _ _ _ _ _ ?_
  refine ⟨vp_in_nI (n := 6) (by omega) (by omega), ?_⟩
  refine b_ne hB.2.2.2.1.1 (b := 6) rfl (by omega) (by omega) (fun h3 => ?_) (fun h3 => ?_)
  · refine hX _ _ _ _ _ _ _ ?_
    refine hX _ _ _ _ _ _ _ ?_
    refine ⟨fun _ => ?_, fun z => absurd (show nI 0 ≤ 0 from by decide +kernel) z⟩
    refine hX _ _ _ _ _ _ _ ?_
    refine g_rem (σ := mput σ 0 0 (nI 0)) (hM.mx rfl rfl) (fun W hA => ?_)
    have hA : MA σ (σ 1) (nI 0) (min 12 (a + 1)) (psh (σ 1) row) W := hA
    refine g_takesW hB.2.2.2.1.1 (by omega) hA.mw (fun W2 h2 => ?_)
    refine ⟨vp_in_nI (n := 6) (by omega) (by omega), ?_⟩
    refine qi ?_ (q1 lo hi qn pn ok (by omega) W2 (hA.w h2))
    show _ = W2 1 6 - nI 1
    rw [h2.1]
    show nI nd = nI (nd + 1) - nI 1
    rw [nI_sub (by omega), Nat.add_sub_cancel]
  · refine hX _ _ _ _ _ _ _ ?_
    refine ⟨fun z => absurd (show nI 2 ≤ 0 from z) (by decide +kernel), fun _ => ?_⟩
    exact q2 ⟨lo, hi, qn, pn, ok⟩ h3 _ MX.th
end MAC
