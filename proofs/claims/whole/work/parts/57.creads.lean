/-! THE CLASS: lines of a text -/
section CLN
variable {S : Type} (t : Nat → Int32) (n : Nat) (L : Nat → S → (Nat × S) ⊕ Nat)
def ClP (RI : S → Nat → mSg → Prop) (I : S → Prop) (cnt : S → Nat) (most j d : Nat) : Prop := ∀ (σ : mSg) (i : Nat) (s : S) (Q : mPst), RTw σ t n i → I s → cnt s < most → RI s (bg t n i) σ →
  (∀ b' s', L (bg t n i) s = .inl (b', s') → ∀ σ' i', bg t n i' = b' → RTw σ' t n i' → RI s' b' σ' → Q (.inl (some (.int (nI 1)))) sh_5 σ') →
  (∀ e, L (bg t n i) s = .inr e → ∀ σ' i', bg t n i' = e → RTw σ' t n i' → Q (.inl (some (.int (nI 0)))) sh_5 σ') → mD d j [.ref 0] sh_5 σ Q
end CLN
section CRD
variable {S : Type} {t : Nat → Int32} {n : Nat} {L : Nat → S → (Nat × S) ⊕ Nat} {RI : S → Nat → mSg → Prop} {I : S → Prop} {cnt : S → Nat} {d : Nat} {σ : mSg} {Q : mPst}
theorem c_reads1 (hRI : ∀ s b b' σ σ2, b ≤ b' → RI s b σ → RI s b' (mback [(1, 4)] σ σ2)) (hL : ClP t n L RI I cnt 12 282 (d + 2)) (hG : LnG t n L I cnt) {s0 : S} (hI : I s0) (hc : cnt s0 = 0) (hn : n ≤ 400) (h3 : σ 1 3 = nI n) (hb : ∀ k, k < n → σ 2 k = t k) (hR0 : RI s0 0 σ)
    (q1 : ∀ s', pTx t n L 12 (sk t n 0) s0 = .inl s' → I s' → ∀ σ' i b, RTw σ' t n i → RI s' b σ' → Q (.inl (some (.int (nI 1)))) sh_5 σ')
    (q0 : ∀ e, pTx t n L 12 (sk t n 0) s0 = .inr e → ∀ σ' i, bg t n i = e → RTw σ' t n i → Q (.inl (some (.int (nI 0)))) sh_5 σ') : mD (d + 3) 274 [.ref 0, .int (nI 12), .int (nI 1)] sh_5 σ Q := by
  refine ⟨rfl, fun X hX => ?_⟩
  have loop : ∀ f σ1 i s, cnt s + f = 12 → I s → RTw σ1 t n i → RI s (bg t n i) σ1 → pLs t n L f (bg t n i) s = pTx t n L 12 (sk t n 0) s0 → X 21 [some (.ref 0), some (.int (nI 12)), some (.int (nI 1)), some (.int (nI (cnt s))), none] [] sh_5 σ1 0 0 := by
    intro f
    induction f with
    | zero =>
      intro σ1 i s hcs hs h1 h2 hR
      refine hX _ _ _ _ _ _ _ ?_
      refine b_ge rfl rfl (by omega) (by omega) (fun _ => ?_) (fun h => by omega)
      refine hX _ _ _ _ _ _ _ ?_
      exact ⟨Or.inl rfl, q0 _ hR.symm σ1 i rfl h1⟩
    | succ f ih =>
      intro σ1 i s hcs hs h1 h2 hR
      have hg := hG (bg t n i) s (bg_le i) (bg_sk i) hs
      rw [pLs] at hR
      refine hX _ _ _ _ _ _ _ ?_
      refine b_ge rfl rfl (by omega) (by omega) (fun h => by omega) (fun _ => ?_)
      refine ⟨fun h => absurd h (by decide +kernel), fun _ => ?_⟩
      refine hL σ1 i s _ h1 hs (by omega) h2 (fun b' s' e σ3 i3 e3 a1 a2 => ?_) (fun e he σ3 i3 e3 a1 => ?_)
      · obtain ⟨g1, g2, g3, g4, g5⟩ := hg.1 b' s' e
        rw [e] at hR
        have ec : nI (cnt s) + nI 1 = nI (cnt s') := by rw [g5]; exact nI_1 _
        refine hX _ _ _ _ _ _ _ ?_
        refine ⟨fun _ => ?_, fun h => absurd h (by decide +kernel)⟩
        refine hX _ _ _ _ _ _ _ ?_
        refine c_atEnd a1 (fun h4 => ?_) (fun h4 => ?_)
        · refine ⟨fun h => absurd h (by decide +kernel), fun _ => ?_⟩
          have hR2 : .inl s' = pTx t n L 12 (sk t n 0) s0 := (if_pos (e3.symm.trans h4)).symm.trans hR
          exact ⟨Or.inr rfl, q1 s' hR2.symm g4 _ i3 b' (RTw.of (σ := σ3) a1) (hRI _ _ _ _ _ (Nat.le_refl _) a2)⟩
        · refine ⟨fun _ => ?_, fun h => absurd rfl h⟩
          have hR2 : (if sgB t n b' 59 = true then pLs t n L f (nx t n b') s' else .inr b') = pTx t n L 12 (sk t n 0) s0 := (if_neg (by omega)).symm.trans hR
          refine hX _ _ _ _ _ _ _ ?_
          refine c_takesSign (c := 59) rfl (RTw.of (σ := σ3) a1) (fun s1 σ5 h6 => ?_) (fun s1 => ?_)
          · rw [e3] at s1
            have hgt := nx_gt (t := t) (sgB_iff.mp s1).1
            rw [if_pos s1] at hR2
            refine ⟨fun _ => ?_, fun h => absurd h (by decide +kernel)⟩
            refine hX _ _ _ _ _ _ _ ?_
            have e4 : bg t n (i3 + 1) = nx t n b' := by show nx t n (bg t n i3) = _; rw [e3]
            have key : ∀ σx, RTw σx t n (i3 + 1) → RI s' (nx t n b') σx → X 21 [some (.ref 0), some (.int (nI 12)), some (.int (nI 1)), some (.int (nI (cnt s) + nI 1)), none] [] sh_5 σx 0 0 := by
              intro σx x1 x2
              rw [ec]
              exact ih σx (i3 + 1) s' (by omega) g4 x1 (by rw [e4]; exact x2) (by rw [e4]; exact hR2)
            exact key _ (RTw.of h6) (hRI _ _ _ _ _ (Nat.le_of_lt hgt) (hRI _ _ _ _ _ (Nat.le_refl _) a2))
          · rw [e3] at s1
            rw [if_neg s1] at hR2
            refine ⟨fun h => absurd rfl h, fun _ => ?_⟩
            exact ⟨Or.inl rfl, q0 b' hR2.symm _ i3 e3 (RTw.of (σ := _) a1)⟩
      · rw [he] at hR
        refine hX _ _ _ _ _ _ _ ?_
        refine ⟨fun h => absurd rfl h, fun _ => ?_⟩
        exact ⟨Or.inl rfl, q0 e hR.symm σ3 i3 e3 a1⟩
  refine hX _ _ _ _ _ _ _ ?_
  refine c_partIntoThings hn h3 hb ?_
  intro σ1 k1
  refine c_atEnd (RTw.of (σ := σ) k1) (fun h4 => ?_) (fun h4 => ?_)
  · refine ⟨fun h => absurd h (by decide +kernel), fun _ => ?_⟩
    have h4 : sk t n 0 = n := h4
    exact ⟨Or.inr rfl, q1 s0 (by unfold pTx; rw [if_pos h4]) hI _ 0 0 (RTw.of (σ := _) (RTw.of (σ := σ) k1)) (hRI _ _ _ _ _ (Nat.le_refl _) (hRI _ _ _ _ _ (Nat.le_refl _) hR0))⟩
  · have h4 : sk t n 0 < n := h4
    refine ⟨fun _ => ?_, fun h => absurd rfl h⟩
    refine hX _ _ _ _ _ _ _ ?_
    have key : ∀ σx, RTw σx t n 0 → RI s0 (sk t n 0) σx → X 21 [some (.ref 0), some (.int (nI 12)), some (.int (nI 1)), some (.int (nI 0)), none] [] sh_5 σx 0 0 := by
      intro σx x1 x2
      have h9 := loop 12 σx 0 s0 (by omega) hI x1 x2 (by show pLs t n L 12 (sk t n 0) s0 = _; unfold pTx; rw [if_neg (by omega)])
      rw [hc] at h9
      exact h9
    exact key _ (RTw.of (σ := _) (RTw.of (σ := σ) k1)) (hRI _ _ _ _ _ (Nat.le_refl _) (hRI _ _ _ _ _ (Nat.zero_le _) hR0))
theorem c_reads0 (hRI : ∀ s b b' σ σ2, b ≤ b' → RI s b σ → RI s b' (mback [(1, 4)] σ σ2)) (hL : ClP t n L RI I cnt 14 275 (d + 2)) (hG : LnG t n L I cnt) {s0 : S} (hI : I s0) (hc : cnt s0 = 0) (hn : n ≤ 400) (h3 : σ 1 3 = nI n) (hb : ∀ k, k < n → σ 2 k = t k) (hR0 : RI s0 0 σ)
    (q1 : ∀ s', pTx t n L 14 (sk t n 0) s0 = .inl s' → I s' → ∀ σ' i b, RTw σ' t n i → RI s' b σ' → Q (.inl (some (.int (nI 1)))) sh_5 σ')
    (q0 : ∀ e, pTx t n L 14 (sk t n 0) s0 = .inr e → ∀ σ' i, bg t n i = e → RTw σ' t n i → Q (.inl (some (.int (nI 0)))) sh_5 σ') : mD (d + 3) 274 [.ref 0, .int (nI 14), .int (nI 0)] sh_5 σ Q := by
  refine ⟨rfl, fun X hX => ?_⟩
  have loop : ∀ f σ1 i s, cnt s + f = 14 → I s → RTw σ1 t n i → RI s (bg t n i) σ1 → pLs t n L f (bg t n i) s = pTx t n L 14 (sk t n 0) s0 → X 21 [some (.ref 0), some (.int (nI 14)), some (.int (nI 0)), some (.int (nI (cnt s))), none] [] sh_5 σ1 0 0 := by
    intro f
    induction f with
    | zero =>
      intro σ1 i s hcs hs h1 h2 hR
      refine hX _ _ _ _ _ _ _ ?_
      refine b_ge rfl rfl (by omega) (by omega) (fun _ => ?_) (fun h => by omega)
      refine hX _ _ _ _ _ _ _ ?_
      exact ⟨Or.inl rfl, q0 _ hR.symm σ1 i rfl h1⟩
    | succ f ih =>
      intro σ1 i s hcs hs h1 h2 hR
      have hg := hG (bg t n i) s (bg_le i) (bg_sk i) hs
      rw [pLs] at hR
      refine hX _ _ _ _ _ _ _ ?_
      refine b_ge rfl rfl (by omega) (by omega) (fun h => by omega) (fun _ => ?_)
      refine ⟨fun _ => ?_, fun h => absurd rfl h⟩
      refine hX _ _ _ _ _ _ _ ?_
      refine hL σ1 i s _ h1 hs (by omega) h2 (fun b' s' e σ3 i3 e3 a1 a2 => ?_) (fun e he σ3 i3 e3 a1 => ?_)
      · obtain ⟨g1, g2, g3, g4, g5⟩ := hg.1 b' s' e
        rw [e] at hR
        have ec : nI (cnt s) + nI 1 = nI (cnt s') := by rw [g5]; exact nI_1 _
        refine hX _ _ _ _ _ _ _ ?_
        refine ⟨fun _ => ?_, fun h => absurd h (by decide +kernel)⟩
        refine hX _ _ _ _ _ _ _ ?_
        refine c_atEnd a1 (fun h4 => ?_) (fun h4 => ?_)
        · refine ⟨fun h => absurd h (by decide +kernel), fun _ => ?_⟩
          have hR2 : .inl s' = pTx t n L 14 (sk t n 0) s0 := (if_pos (e3.symm.trans h4)).symm.trans hR
          exact ⟨Or.inr rfl, q1 s' hR2.symm g4 _ i3 b' (RTw.of (σ := σ3) a1) (hRI _ _ _ _ _ (Nat.le_refl _) a2)⟩
        · refine ⟨fun _ => ?_, fun h => absurd rfl h⟩
          have hR2 : (if sgB t n b' 59 = true then pLs t n L f (nx t n b') s' else .inr b') = pTx t n L 14 (sk t n 0) s0 := (if_neg (by omega)).symm.trans hR
          refine hX _ _ _ _ _ _ _ ?_
          refine c_takesSign (c := 59) rfl (RTw.of (σ := σ3) a1) (fun s1 σ5 h6 => ?_) (fun s1 => ?_)
          · rw [e3] at s1
            have hgt := nx_gt (t := t) (sgB_iff.mp s1).1
            rw [if_pos s1] at hR2
            refine ⟨fun _ => ?_, fun h => absurd h (by decide +kernel)⟩
            refine hX _ _ _ _ _ _ _ ?_
            have e4 : bg t n (i3 + 1) = nx t n b' := by show nx t n (bg t n i3) = _; rw [e3]
            have key : ∀ σx, RTw σx t n (i3 + 1) → RI s' (nx t n b') σx → X 21 [some (.ref 0), some (.int (nI 14)), some (.int (nI 0)), some (.int (nI (cnt s) + nI 1)), none] [] sh_5 σx 0 0 := by
              intro σx x1 x2
              rw [ec]
              exact ih σx (i3 + 1) s' (by omega) g4 x1 (by rw [e4]; exact x2) (by rw [e4]; exact hR2)
            exact key _ (RTw.of h6) (hRI _ _ _ _ _ (Nat.le_of_lt hgt) (hRI _ _ _ _ _ (Nat.le_refl _) a2))
          · rw [e3] at s1
            rw [if_neg s1] at hR2
            refine ⟨fun h => absurd rfl h, fun _ => ?_⟩
            exact ⟨Or.inl rfl, q0 b' hR2.symm _ i3 e3 (RTw.of (σ := _) a1)⟩
      · rw [he] at hR
        refine hX _ _ _ _ _ _ _ ?_
        refine ⟨fun h => absurd rfl h, fun _ => ?_⟩
        exact ⟨Or.inl rfl, q0 e hR.symm σ3 i3 e3 a1⟩
  refine hX _ _ _ _ _ _ _ ?_
  refine c_partIntoThings hn h3 hb ?_
  intro σ1 k1
  refine c_atEnd (RTw.of (σ := σ) k1) (fun h4 => ?_) (fun h4 => ?_)
  · refine ⟨fun h => absurd h (by decide +kernel), fun _ => ?_⟩
    have h4 : sk t n 0 = n := h4
    exact ⟨Or.inr rfl, q1 s0 (by unfold pTx; rw [if_pos h4]) hI _ 0 0 (RTw.of (σ := _) (RTw.of (σ := σ) k1)) (hRI _ _ _ _ _ (Nat.le_refl _) (hRI _ _ _ _ _ (Nat.le_refl _) hR0))⟩
  · have h4 : sk t n 0 < n := h4
    refine ⟨fun _ => ?_, fun h => absurd rfl h⟩
    refine hX _ _ _ _ _ _ _ ?_
    have key : ∀ σx, RTw σx t n 0 → RI s0 (sk t n 0) σx → X 21 [some (.ref 0), some (.int (nI 14)), some (.int (nI 0)), some (.int (nI 0)), none] [] sh_5 σx 0 0 := by
      intro σx x1 x2
      have h9 := loop 14 σx 0 s0 (by omega) hI x1 x2 (by show pLs t n L 14 (sk t n 0) s0 = _; unfold pTx; rw [if_neg (by omega)])
      rw [hc] at h9
      exact h9
    exact key _ (RTw.of (σ := _) (RTw.of (σ := σ) k1)) (hRI _ _ _ _ _ (Nat.le_refl _) (hRI _ _ _ _ _ (Nat.zero_le _) hR0))
end CRD
