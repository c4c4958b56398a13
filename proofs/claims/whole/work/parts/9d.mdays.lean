/-! THE MODEL: days, days that do not stay -/
section MDY
variable {d : Nat} {σ : mSg} {f : Nat → Int32} {Q : mPst} {ls : List lLn} {n nc ns nd a : Nat} {row : Nat → Nat → Int32}
theorem g_putsAside (hq : ∀ σ', (∀ c, c ≠ 3 → σ' c = σ c) → (∀ i, i < 423 → σ' 3 i = σ 1 i) → Q (.inl none) sh_10 σ') : mD (d + 1) 118 [.ref 0] sh_10 σ Q := by
  refine ⟨rfl, fun X hX => ?_⟩
  have loop : ∀ r k W2, 423 - k = r → k ≤ 423 → (∀ c, c ≠ 3 → W2 c = σ c) → (∀ i, i < k → W2 3 i = σ 1 i) → X 2 [some (.ref 0), some (.int (nI k))] [] sh_10 W2 0 0 := by
    intro r
    induction r with
    | zero =>
      intro k W2 hr2 hk u1 u3
      have ek : k = 423 := by omega
      subst ek
      refine hX _ _ _ _ _ _ _ ?_
      refine b_ge rfl (b := 423) rfl (by omega) (by omega) (fun _ => ?_) (fun h => by omega)
      refine hX _ _ _ _ _ _ _ ?_
      exact hq _ u1 u3
    | succ r ih =>
      intro k W2 hr2 hk u1 u3
      have ew : mput W2 3 (nI k).toNatClampNeg (W2 1 (nI k).toNatClampNeg) = mput W2 3 k (σ 1 k) := by
        rw [nI_clamp (by omega), u1 1 (by omega)]
      have nxt : ∀ W3, W3 = mput W2 3 k (σ 1 k) → X 2 [some (.ref 0), some (.int (nI k + nI 1))] [] sh_10 W3 0 0 := by
        intro W3 hW3
        rw [nI_add]
        refine ih (k + 1) W3 (by omega) (by omega) (fun c hc => ?_) (fun i hi => ?_)
        · rw [hW3, mput_ne hc]; exact u1 c hc
        · rw [hW3, mput_eq]
          by_cases e : i = k
          · rw [e, upd_at]
          · rw [upd_off (by omega)]; exact u3 i (by omega)
      refine hX _ _ _ _ _ _ _ ?_
      refine b_ge rfl (b := 423) rfl (by omega) (by omega) (fun h => by omega) (fun _ => ?_)
      refine ⟨vp_in_nI (by omega) (by omega), vp_in_nI (by omega) (by omega), ?_⟩
      exact nxt _ ew
  refine hX _ _ _ _ _ _ _ ?_
  exact loop _ 0 _ rfl (by omega) (fun c h1 => rfl) (fun i hi => by omega)
theorem g_comesBack (h3 : ∀ i, i < 423 → σ 3 i = f i) (h1 : ∀ i, 423 ≤ i → σ 1 i = f i) (hq : ∀ σ', (∀ c, c ≠ 1 → σ' c = σ c) → σ' 1 = f → Q (.inl none) sh_10 σ') : mD (d + 1) 119 [.ref 0] sh_10 σ Q := by
  refine ⟨rfl, fun X hX => ?_⟩
  have loop : ∀ r k W2, 423 - k = r → k ≤ 423 → (∀ c, c ≠ 1 → W2 c = σ c) → (∀ i, i < k → W2 1 i = f i) → (∀ i, 423 ≤ i → W2 1 i = f i) → X 2 [some (.ref 0), some (.int (nI k))] [] sh_10 W2 0 0 := by
    intro r
    induction r with
    | zero =>
      intro k W2 hr2 hk u1 u3 u4
      have ek : k = 423 := by omega
      subst ek
      refine hX _ _ _ _ _ _ _ ?_
      refine b_ge rfl (b := 423) rfl (by omega) (by omega) (fun _ => ?_) (fun h => by omega)
      refine hX _ _ _ _ _ _ _ ?_
      refine hq _ u1 (funext fun i => ?_)
      by_cases e : i < 423
      · exact u3 i e
      · exact u4 i (by omega)
    | succ r ih =>
      intro k W2 hr2 hk u1 u3 u4
      have ew : mput W2 1 (nI k).toNatClampNeg (W2 3 (nI k).toNatClampNeg) = mput W2 1 k (f k) := by
        rw [nI_clamp (by omega), u1 3 (by omega), h3 k (by omega)]
      have nxt : ∀ W3, W3 = mput W2 1 k (f k) → X 2 [some (.ref 0), some (.int (nI k + nI 1))] [] sh_10 W3 0 0 := by
        intro W3 hW3
        rw [nI_add]
        refine ih (k + 1) W3 (by omega) (by omega) (fun c hc => ?_) (fun i hi => ?_) (fun i hi => ?_)
        · rw [hW3, mput_ne hc]; exact u1 c hc
        · rw [hW3, mput_eq]
          by_cases e : i = k
          · rw [e, upd_at]
          · rw [upd_off (by omega)]; exact u3 i (by omega)
        · rw [hW3, mput_eq, upd_off (by omega)]; exact u4 i hi
      refine hX _ _ _ _ _ _ _ ?_
      refine b_ge rfl (b := 423) rfl (by omega) (by omega) (fun h => by omega) (fun _ => ?_)
      refine ⟨vp_in_nI (by omega) (by omega), vp_in_nI (by omega) (by omega), ?_⟩
      exact nxt _ ew
  refine hX _ _ _ _ _ _ _ ?_
  exact loop _ 0 _ rfl (by omega) (fun c h1 => rfl) (fun i hi => by omega) h1
theorem MA.w {W W' : mSg} {g : Nat → Int32} {th : Int32} (h : MA σ f th a row W) (hw : MW W g W') : MA σ g th a row W' := ⟨hw.1, h.2.1.mx (hw.2.1 4 (by omega) (by omega)) hw.2.2.2.2.1, (hw.2.1 2 (by omega) (by omega)).trans h.2.2.1, (hw.2.1 5 (by omega) (by omega)).trans h.2.2.2.1, hw.2.2.1.trans h.2.2.2.2.1, hw.2.2.2.1.trans h.2.2.2.2.2.1, hw.2.2.2.2.2.1.trans h.2.2.2.2.2.2.1, hw.2.2.2.2.2.2.1.trans h.2.2.2.2.2.2.2.1, fun z => hw.2.2.2.2.2.2.2 (h.2.2.2.2.2.2.2.2 z)⟩
/-- remembers, with what was thrown told before -/
theorem g_rem (hM : MM σ a row) (hq : ∀ σ', MA σ (σ 1) (σ 0 0) (min 12 (a + 1)) (psh (σ 1) row) σ' → Q (.inl none) sh_10 σ') : mD (d + 1) 158 [.ref 0] sh_10 σ Q := g_remembers hM (fun W w1 w2 w3 => hq W ⟨w1 1 (by omega) (by omega), w3, w1 2 (by omega) (by omega), w1 5 (by omega) (by omega), w2 0 (by omega), w2 3 (by omega), w2 8 (by omega), w2 12 (by omega), k15.e (w2 15 (by omega))⟩)
theorem MA.mw {th : Int32} {W : mSg} (h : MA σ f th a row W) : MW W f W := by
  have := MW.refl W
  rw [h.1] at this
  exact this
theorem g_days {p : Int32} (hO : lOks ls) (hl : ls.length ≤ 12) (hB : BD (σ 1) n nc ns nd) (hL : LTx (σ 1) ls) (hM : MM σ a row) (q1 : ∀ k, 1 ≤ k → k ≤ 60 → p = nI k → ∀ σ', MA σ (sDays ls true n nc nd (σ 1) k).1 (nI 0) (min 12 (a + 1)) (psh (σ 1) row) σ' → Q (.inl (some (.int (sDays ls true n nc nd (σ 1) k).2))) sh_10 σ') (q0 : (¬ ∃ k, 1 ≤ k ∧ k ≤ 60 ∧ p = nI k) → ∀ σ', MX σ (σ 1) (nI 1) σ' → Q (.inl (some (.int (nI 0)))) sh_10 σ') : mD (d + 36) 160 [.ref 0, .int p] sh_10 σ Q := by
  refine ⟨rfl, fun X hX => ?_⟩
  refine hX _ _ _ _ _ _ _ ?_
  refine g_isIn (fun h => ?_) (fun h => ?_)
  · have h : sIn p (nI 1) (nI 60) := h
    rw [sIn2_iff (by omega) (by omega)] at h
    obtain ⟨k, k1, k2, rfl⟩ := h
    have hq := q1 k k1 k2 rfl
    refine ⟨fun _ => ?_, fun z => absurd z (by decide +kernel)⟩
    refine hX _ _ _ _ _ _ _ ?_
    refine hX _ _ _ _ _ _ _ ?_
    refine ⟨fun _ => ?_, fun z => absurd (show nI 0 ≤ 0 from by decide +kernel) z⟩
    refine hX _ _ _ _ _ _ _ ?_
    refine g_rem (σ := mput σ 0 0 (nI 0)) (hM.mx rfl rfl) (fun W hA => ?_)
    have hA : MA σ (σ 1) (nI 0) (min 12 (a + 1)) (psh (σ 1) row) W := hA
    refine g_goes (dr := true) (f := σ 1) rfl (by omega) hO hl hB hL hA.mw (fun W2 h2 => ?_)
    exact hq W2 (hA.w h2)
  · have h : ¬ sIn p (nI 1) (nI 60) := h
    rw [sIn2_iff (by omega) (by omega)] at h
    refine ⟨fun z => absurd rfl z, fun _ => ?_⟩
    refine hX _ _ _ _ _ _ _ ?_
    refine ⟨fun z => absurd (show nI 1 ≤ 0 from z) (by decide +kernel), fun _ => ?_⟩
    exact q0 h _ MX.th
/-- days that do not stay: put aside, and back -/
theorem MX.pa {W W2 W3 : mSg} {g : Nat → Int32} (p1 : ∀ c, c ≠ 3 → W c = mput σ 0 0 (nI 0) c) (h2 : MW W g W2) (p3 : ∀ c, c ≠ 1 → W3 c = W2 c) (p4 : W3 1 = σ 1) : MX σ (σ 1) (nI 0) W3 := by
  have e : ∀ c, c ≠ 1 → c ≠ 3 → 2 ≤ c → c ≤ 5 → W3 c = σ c := fun c h1 h3 h2' h5 => (p3 c h1).trans ((h2.2.1 c h2' h5).trans ((p1 c h3).trans (mput_ne (by omega))))
  have c0 := p3 0 (by omega)
  have w0 := p1 0 (by omega)
  exact ⟨p4, e 2 (by omega) (by omega) (by omega) (by omega), e 4 (by omega) (by omega) (by omega) (by omega), e 5 (by omega) (by omega) (by omega) (by omega), (congrFun c0 0).trans (h2.2.2.1.trans (congrFun w0 0)), (congrFun c0 3).trans (h2.2.2.2.1.trans (congrFun w0 3)), (congrFun c0 6).trans (h2.2.2.2.2.1.trans (congrFun w0 6)), (congrFun c0 8).trans (h2.2.2.2.2.2.1.trans (congrFun w0 8)), (congrFun c0 12).trans (h2.2.2.2.2.2.2.1.trans (congrFun w0 12)), fun z => k15.e (congrFun c0 15) (h2.2.2.2.2.2.2.2 (k15.e (σ := σ) (congrFun w0 15) z))⟩
theorem g_ahead {p w : Int32} (hO : lOks ls) (hl : ls.length ≤ 12) (hB : BD (σ 1) n nc ns nd) (hL : LTx (σ 1) ls) (q1 : ∀ so : Option Nat, (∀ k, so = some k → k < n) → p = oN so → ∀ k, k ≤ 60 → w = nI k → ∀ σ', MX σ (σ 1) (nI 0) σ' → Q (.inl (some (.int (sAh ls (σ 1) n nc nd k so)))) sh_10 σ') (q0 : ¬ sOk n p → ∀ σ', MX σ (σ 1) (nI 1) σ' → Q (.inl (some (.int (nI 0)))) sh_10 σ') (q2 : sOk n p → (¬ ∃ s, 0 ≤ s ∧ s ≤ 60 ∧ w = nI s) → ∀ σ', MX σ (σ 1) (nI 2) σ' → Q (.inl (some (.int (nI 0)))) sh_10 σ') : mD (d + 36) 215 [.ref 0, .int p, .int w] sh_10 σ Q := by
  have hn := hB.1.2
  refine ⟨rfl, fun X hX => ?_⟩
  have mid : ∀ so : Option Nat, (∀ k, so = some k → k < n) → p = oN so → X 18 [some (.ref 0), some (.int p), some (.int w), none, none] [.ref 0] sh_10 σ 0 0 := by
    intro so hso e1
    have ok : sOk n p := by cases so with | none => exact Or.inl e1 | some s => exact Or.inr ⟨s, hso s rfl, e1⟩
    refine hX _ _ _ _ _ _ _ ?_
    refine g_isIn (fun h => ?_) (fun h => ?_)
    · have h : sIn w (nI 0) (nI 60) := h
      rw [sIn2_iff (by omega) (by omega)] at h
      obtain ⟨k, -, k2, rfl⟩ := h
      have hq := q1 so hso e1 k k2 rfl
      refine ⟨fun _ => ?_, fun z => absurd z (by decide +kernel)⟩
      refine hX _ _ _ _ _ _ _ ?_
      refine hX _ _ _ _ _ _ _ ?_
      refine ⟨fun _ => ?_, fun z => absurd (show nI 0 ≤ 0 from by decide +kernel) z⟩
      refine hX _ _ _ _ _ _ _ ?_
      refine g_putsAside (σ := mput σ 0 0 (nI 0)) (fun W p1 p2 => ?_)
      have e1' : W 1 = σ 1 := p1 1 (by omega)
      have hW : MW W (σ 1) W := by
        have := MW.refl W
        rw [e1'] at this
        exact this
      refine g_goes (dr := false) (f := σ 1) rfl (by omega) hO hl hB hL hW (fun W2 h2 => ?_)
      have hk := (sDays_ok (dr := false) hO hl hB k).2
      have fin : ∀ x, x = sAh ls (σ 1) n nc nd k so → X 77 [some (.ref 0), none, none, none, none] [.int x] sh_10 W2 0 0 := by
        intro x hx
        refine hX _ _ _ _ _ _ _ ?_
        refine g_comesBack (f := σ 1) (fun i hi => ?_) (fun i hi => ?_) (fun W3 p3 p4 => ?_)
        · rw [h2.2.1 3 (by omega) (by omega)]; exact p2 i hi
        · rw [h2.1]; exact hk i (by unfold kdp; omega)
        · exact qi hx.symm (hq W3 (MX.pa p1 h2 p3 p4))
      subst e1
      cases so with
      | none =>
        refine ⟨fun z => absurd rfl z, fun _ => ?_⟩
        refine g_heapBetween (lo := 1) (hi := 6) (by omega) (by omega) (by omega) ?_
        have e : sHS (W2 1) 1 6 = sAh ls (σ 1) n nc nd k none := by rw [h2.1]; rfl
        exact fin _ e
      | some s =>
        have hs := hso s rfl
        refine ⟨fun _ => ?_, fun z => absurd z (oN_ne (by omega))⟩
        refine hX _ _ _ _ _ _ _ ?_
        refine g_of (w := 2) (by omega) (by omega) ?_
        have e : W2 1 (20 + 9 * s + 2) = sAh ls (σ 1) n nc nd k (some s) := by rw [h2.1, show 20 + 9 * s + 2 = 22 + 9 * s by omega]; rfl
        exact fin _ e
    · have h : ¬ sIn w (nI 0) (nI 60) := h
      rw [sIn2_iff (by omega) (by omega)] at h
      refine ⟨fun z => absurd rfl z, fun _ => ?_⟩
      refine hX _ _ _ _ _ _ _ ?_
      refine ⟨fun z => absurd (show nI 2 ≤ 0 from z) (by decide +kernel), fun _ => ?_⟩
      exact q2 ok h _ MX.th
  refine hX _ _ _ _ _ _ _ ?_
  refine ⟨fun h => ?_, fun h => ?_⟩
  · exact mid none (fun k h => by cases h) h
  · refine g_isStreet (fun h2 => ?_) (fun h2 => ?_)
    · rw [hB.1.1, sIn_iff (by omega)] at h2
      obtain ⟨o, ho, e⟩ := h2
      refine ⟨fun _ => ?_, fun z => absurd z (by decide +kernel)⟩
      exact mid (some o) (fun k h => by cases h; exact ho) e
    · rw [hB.1.1, sIn_iff (by omega)] at h2
      refine ⟨fun z => absurd rfl z, fun _ => ?_⟩
      refine hX _ _ _ _ _ _ _ ?_
      refine ⟨fun z => absurd (show nI 1 ≤ 0 from z) (by decide +kernel), fun _ => ?_⟩
      exact q0 (fun y => y.elim h h2) _ MX.th
theorem g_trial {p u : Int32} {heap : Bool} (hu : u = (if heap = true then nI 1 else nI 0)) (hO : lOks ls) (hl : ls.length ≤ 12) (hB : BD (σ 1) n nc ns nd) (hL : LTx (σ 1) ls) (q1 : ∀ k, k ≤ 60 → p = nI k → ∀ σ', MX σ (σ 1) (nI 0) σ' → Q (.inl (some (.int (sTl ls (σ 1) n nc nd k heap)))) sh_10 σ') (q0 : (¬ ∃ s, 0 ≤ s ∧ s ≤ 60 ∧ p = nI s) → ∀ σ', MX σ (σ 1) (nI 1) σ' → Q (.inl (some (.int (nI 0)))) sh_10 σ') : mD (d + 36) 216 [.ref 0, .int p, .int u] sh_10 σ Q := by
  refine ⟨rfl, fun X hX => ?_⟩
  refine hX _ _ _ _ _ _ _ ?_
  refine g_isIn (fun h => ?_) (fun h => ?_)
  · have h : sIn p (nI 0) (nI 60) := h
    rw [sIn2_iff (by omega) (by omega)] at h
    obtain ⟨k, -, k2, rfl⟩ := h
    have hq := q1 k k2 rfl
    refine ⟨fun _ => ?_, fun z => absurd z (by decide +kernel)⟩
    refine hX _ _ _ _ _ _ _ ?_
    refine hX _ _ _ _ _ _ _ ?_
    refine ⟨fun _ => ?_, fun z => absurd (show nI 0 ≤ 0 from by decide +kernel) z⟩
    refine hX _ _ _ _ _ _ _ ?_
    refine g_putsAside (σ := mput σ 0 0 (nI 0)) (fun W p1 p2 => ?_)
    have e1' : W 1 = σ 1 := p1 1 (by omega)
    have hW : MW W (σ 1) W := by
      have := MW.refl W
      rw [e1'] at this
      exact this
    refine g_goes (dr := true) (f := σ 1) rfl (by omega) hO hl hB hL hW (fun W2 h2 => ?_)
    have hk := (sDays_ok (dr := true) hO hl hB k).2
    have fin : ∀ x, x = sTl ls (σ 1) n nc nd k heap → X 60 [some (.ref 0), none, none, none, none] [.int x] sh_10 W2 0 0 := by
      intro x hx
      refine hX _ _ _ _ _ _ _ ?_
      refine g_comesBack (f := σ 1) (fun i hi => ?_) (fun i hi => ?_) (fun W3 p3 p4 => ?_)
      · rw [h2.2.1 3 (by omega) (by omega)]; exact p2 i hi
      · rw [h2.1]; exact hk i (by unfold kdp; omega)
      · exact qi hx.symm (hq W3 (MX.pa p1 h2 p3 p4))
    subst hu
    cases heap with
    | true =>
      refine ⟨fun z => absurd z (by decide +kernel), fun _ => ?_⟩
      refine g_heapBetween (lo := 1) (hi := 6) (by omega) (by omega) (by omega) ?_
      have e : sHS (W2 1) 1 6 = sTl ls (σ 1) n nc nd k true := by rw [h2.1]; rfl
      exact fin _ e
    | false =>
      refine ⟨fun _ => ?_, fun z => absurd rfl z⟩
      refine hX _ _ _ _ _ _ _ ?_
      refine ⟨vp_in_nI (n := 9) (by omega) (by omega), ?_⟩
      have e : W2 1 9 = sTl ls (σ 1) n nc nd k false := by rw [h2.1]; rfl
      exact fin _ e
  · have h : ¬ sIn p (nI 0) (nI 60) := h
    rw [sIn2_iff (by omega) (by omega)] at h
    refine ⟨fun z => absurd rfl z, fun _ => ?_⟩
    refine hX _ _ _ _ _ _ _ ?_
    refine ⟨fun z => absurd (show nI 1 ≤ 0 from z) (by decide +kernel), fun _ => ?_⟩
    exact q0 h _ MX.th
end MDY
