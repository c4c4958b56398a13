/-! LINES of a text, one behind another -/
section PLS
variable {S : Type} (t : Nat → Int32) (n : Nat) (L : Nat → S → (Nat × S) ⊕ Nat)
def pLs : Nat → Nat → S → S ⊕ Nat
  | 0, b, _ => .inr b
  | f + 1, b, s => match L b s with
    | .inr e => .inr e
    | .inl (b', s') => if b' = n then .inl s' else if sgB t n b' 59 = true then pLs f (nx t n b') s' else .inr b'
def pTx (most b : Nat) (s : S) : S ⊕ Nat := if b = n then .inl s else pLs t n L most b s
def LnG (I : S → Prop) (cnt : S → Nat) : Prop := ∀ b s, b ≤ n → sk t n b = b → I s → (∀ b' s', L b s = .inl (b', s') → b < b' ∧ b' ≤ n ∧ sk t n b' = b' ∧ I s' ∧ cnt s' = cnt s + 1) ∧ (∀ e, L b s = .inr e → e ≤ n)
def LnP (W : S → mSg) (I : S → Prop) (j d : Nat) : Prop := ∀ (σ : mSg) (p : Nat) (s : S) (Q : mPst), p ≤ n → I s → PS (W s) σ p (-(nI 1)) 0 → (∀ b' s', L (sk t n p) s = .inl (b', s') → ∀ σ' p', p' ≤ n → sk t n p' = b' → PS (W s') σ' p' (-(nI 1)) 0 → Q (.inl none) sh_10 σ') → (∀ e, L (sk t n p) s = .inr e → ∀ σ' p', p' ≤ n + 8 → PS (W s) σ' p' (nI e) 0 → Q (.inl none) sh_10 σ') → mD d j [.ref 0] sh_10 σ Q
end PLS
section RD
variable {S : Type} {t : Nat → Int32} {n : Nat} {L : Nat → S → (Nat × S) ⊕ Nat} {W : S → mSg} {I : S → Prop} {cnt : S → Nat} {d p : Nat} {σ : mSg} {Q : mPst}
theorem g_read1 (hT : ∀ s, TX (W s) t n) (hL : LnP t n L W I 127 (d + 3)) (hG : LnG t n L I cnt) {s0 : S} (hI : I s0) (hc : cnt s0 = 0) (hp : p ≤ n) (hP : PS (W s0) σ p (-(nI 1)) 0)
    (q1 : ∀ s', pTx t n L 12 (sk t n p) s0 = .inl s' → I s' → cnt s' ≤ 12 → ∀ σ' p', PS (W s') σ' p' (-(nI 1)) 0 → Q (.inl (some (.int (nI (cnt s'))))) sh_10 σ')
    (q0 : ∀ e, pTx t n L 12 (sk t n p) s0 = .inr e → e ≤ n → ∀ σ' p' s' v, I s' → PS (W s') σ' p' (nI e) 0 → Q (.inl (some (.int v))) sh_10 σ') : mD (d + 4) 117 [.ref 0, .int (nI 1)] sh_10 σ Q := by
  have hn := (hT s0).2.1
  refine ⟨rfl, fun X hX => ?_⟩
  have bad : ∀ e σ1 p1 s g v, I s → e ≤ n → pTx t n L 12 (sk t n p) s0 = .inr e → PS (W s) σ1 p1 (nI e) 0 → X 23 [some (.ref 0), some (.int (nI 1)), some (.int g), some (.int v)] [] sh_10 σ1 0 0 := by
    intro e σ1 p1 s g v hs hen he h1
    refine hX _ _ _ _ _ _ _ ?_
    refine ⟨fun _ => ?_, fun _ => ?_⟩
    · refine hX _ _ _ _ _ _ _ ?_
      exact q0 e he hen σ1 p1 s v hs h1
    · refine ⟨fun _ => ?_, fun h => absurd (h1.2.2.1.symm.trans h) (nI_ne1 (by omega))⟩
      refine hX _ _ _ _ _ _ _ ?_
      exact q0 e he hen σ1 p1 s v hs h1
  have fin : ∀ σ1 p1 s, I s → cnt s ≤ 12 → pTx t n L 12 (sk t n p) s0 = .inl s → PS (W s) σ1 p1 (-(nI 1)) 0 → X 23 [some (.ref 0), some (.int (nI 1)), some (.int (nI 0)), some (.int (nI (cnt s)))] [] sh_10 σ1 0 0 := by
    intro σ1 p1 s hs hc he h1
    refine hX _ _ _ _ _ _ _ ?_
    refine ⟨fun _ => ?_, fun h => absurd rfl h⟩
    refine hX _ _ _ _ _ _ _ ?_
    exact q1 s he hs hc σ1 p1 h1
  have badL : ∀ e σ1 p1 s c, I s → e ≤ n → p1 ≤ n + 8 → pTx t n L 12 (sk t n p) s0 = .inr e → PS (W s) σ1 p1 (nI e) 0 → X 80 [some (.ref 0), some (.int (nI 1)), some (.int (nI 1)), some (.int (nI c))] [] sh_10 σ1 0 0 := by
    intro e σ1 p1 s c hs hen hp1 he h1
    refine hX _ _ _ _ _ _ _ ?_
    refine g_skip (hT s) h1 (by omega) ?_
    intro σ2 h2
    refine ⟨fun _ => ?_, fun h => absurd (h2.2.2.1.symm.trans h) (nI_ne1 (by omega))⟩
    refine hX _ _ _ _ _ _ _ ?_
    exact bad e σ2 _ s _ _ hs hen he h2
  have loop : ∀ f σ1 p1 s, cnt s + f = 12 → I s → p1 ≤ n → PS (W s) σ1 p1 (-(nI 1)) 0 → pLs t n L f (sk t n p1) s = pTx t n L 12 (sk t n p) s0 → X 23 [some (.ref 0), some (.int (nI 1)), some (.int (nI 1)), some (.int (nI (cnt s)))] [] sh_10 σ1 0 0 := by
    intro f
    induction f with
    | zero =>
      intro σ1 p1 s hc hs hp1 h1 hR
      have hsl := sk_le (t := t) hp1
      refine hX _ _ _ _ _ _ _ ?_
      refine ⟨fun h => absurd h (by decide +kernel), fun _ => ?_⟩
      refine ⟨fun h => absurd h1.2.2.1 h, fun _ => ?_⟩
      refine g_skip (hT s) h1 (by omega) ?_
      intro σ2 h2
      refine ⟨fun h => absurd h (by decide +kernel), fun _ => ?_⟩
      refine hX _ _ _ _ _ _ _ ?_
      refine b_ne rfl (b := 12) rfl (by omega) (by omega) (fun h => by omega) (fun _ => ?_)
      refine g_wrong h2.2.1 h2 ?_
      intro σ3 h3
      exact badL _ σ3 _ s _ hs hsl (by omega) hR.symm h3
    | succ f ih =>
      intro σ1 p1 s hc hs hp1 h1 hR
      have hsl := sk_le (t := t) hp1
      have hg := hG (sk t n p1) s hsl sk_idem hs
      refine hX _ _ _ _ _ _ _ ?_
      refine ⟨fun h => absurd h (by decide +kernel), fun _ => ?_⟩
      refine ⟨fun h => absurd h1.2.2.1 h, fun _ => ?_⟩
      refine g_skip (hT s) h1 (by omega) ?_
      intro σ2 h2
      refine ⟨fun h => absurd h (by decide +kernel), fun _ => ?_⟩
      refine hX _ _ _ _ _ _ _ ?_
      refine b_ne rfl (b := 12) rfl (by omega) (by omega) (fun _ => ?_) (fun h => by omega)
      refine hX _ _ _ _ _ _ _ ?_
      refine ⟨fun h => absurd h (by decide +kernel), fun _ => ?_⟩
      rw [pLs] at hR
      refine hL σ2 _ s _ hsl hs h2 (fun b' s' e σ3 p3 a1 a2 a3 => ?_) (fun e he σ3 p3 a1 a2 => ?_)
      · rw [sk_idem] at e
        obtain ⟨g1, g2, g3, g4, g5⟩ := hg.1 b' s' e
        rw [e] at hR
        refine hX _ _ _ _ _ _ _ ?_
        refine g_skip (hT s') a3 (by omega) ?_
        intro σ4 h4
        rw [a2] at h4
        refine ⟨fun h => absurd h4.2.2.1 h, fun _ => ?_⟩
        have ec : nI (cnt s) + nI 1 = nI (cnt s') := by rw [g5]; exact nI_1 _
        refine b_ne h4.2.1 (h4.en (hT s')) (by omega) (by omega) (fun h5 => ?_) (fun h5 => ?_)
        · have hR2 : (if sgB t n b' 59 = true then pLs t n L f (nx t n b') s' else .inr b') = pTx t n L 12 (sk t n p) s0 := (if_neg h5).symm.trans hR
          refine hX _ _ _ _ _ _ _ ?_
          refine g_isSign (c := 59) rfl (hT s') h4 (by omega) (fun s1 σ5 h6 => ?_) (fun s1 σ5 h6 => ?_)
          · rw [g3] at s1 h6
            have hlt := (sgB_iff.mp s1).1
            have enx : nx t n b' = sk t n (b' + 1) := by unfold nx; rw [sgB_te s1 (by decide +kernel) (by decide +kernel)]
            rw [if_pos s1, enx] at hR2
            refine ⟨fun h => absurd h (by decide +kernel), fun _ => ?_⟩
            have h9 := ih _ (b' + 1) s' (by omega) g4 (by omega) (h6.at1 (v := σ5 0 11 + nI 1) (by rw [h6.2.1]; exact nI_1 b')) hR2
            rw [← ec] at h9
            exact h9
          · rw [g3] at s1 h6
            rw [if_neg s1] at hR2
            refine ⟨fun _ => ?_, fun h => absurd rfl h⟩
            refine hX _ _ _ _ _ _ _ ?_
            refine g_wrong h6.2.1 h6 ?_
            intro σ6 h7
            exact bad b' σ6 _ s' _ _ g4 g2 hR2.symm h7
        · refine hX _ _ _ _ _ _ _ ?_
          have hR2 : .inl s' = pTx t n L 12 (sk t n p) s0 := (if_pos h5).symm.trans hR
          have h9 := fin σ4 _ s' g4 (by omega) hR2.symm h4
          rw [← ec] at h9
          exact h9
      · rw [sk_idem] at he
        have hen := hg.2 e he
        rw [he] at hR
        exact badL e σ3 p3 s _ hs hen a1 hR.symm a2
  have hsl := sk_le (t := t) hp
  refine hX _ _ _ _ _ _ _ ?_
  refine g_skip (hT s0) hP (by omega) ?_
  intro σ1 h1
  refine b_ge h1.2.1 (h1.en (hT s0)) (by omega) (by omega) (fun h => ?_) (fun h => ?_)
  · refine hX _ _ _ _ _ _ _ ?_
    refine hX _ _ _ _ _ _ _ ?_
    have h9 := fin σ1 _ s0 hI (by omega) (by unfold pTx; rw [if_pos (by omega)]) h1
    rw [hc] at h9
    exact h9
  · refine hX _ _ _ _ _ _ _ ?_
    have h9 := loop 12 σ1 _ s0 (by omega) hI hsl h1 (by rw [sk_idem]; unfold pTx; rw [if_neg (by omega)])
    rw [hc] at h9
    exact h9
theorem g_read0 (hT : ∀ s, TX (W s) t n) (hL : LnP t n L W I 115 (d + 3)) (hG : LnG t n L I cnt) {s0 : S} (hI : I s0) (hc : cnt s0 = 0) (hp : p ≤ n) (hP : PS (W s0) σ p (-(nI 1)) 0)
    (q1 : ∀ s', pTx t n L 14 (sk t n p) s0 = .inl s' → I s' → cnt s' ≤ 14 → ∀ σ' p', PS (W s') σ' p' (-(nI 1)) 0 → Q (.inl (some (.int (nI (cnt s'))))) sh_10 σ')
    (q0 : ∀ e, pTx t n L 14 (sk t n p) s0 = .inr e → e ≤ n → ∀ σ' p' s' v, I s' → PS (W s') σ' p' (nI e) 0 → Q (.inl (some (.int v))) sh_10 σ') : mD (d + 4) 117 [.ref 0, .int (nI 0)] sh_10 σ Q := by
  have hn := (hT s0).2.1
  refine ⟨rfl, fun X hX => ?_⟩
  have bad : ∀ e σ1 p1 s g v, I s → e ≤ n → pTx t n L 14 (sk t n p) s0 = .inr e → PS (W s) σ1 p1 (nI e) 0 → X 23 [some (.ref 0), some (.int (nI 0)), some (.int g), some (.int v)] [] sh_10 σ1 0 0 := by
    intro e σ1 p1 s g v hs hen he h1
    refine hX _ _ _ _ _ _ _ ?_
    refine ⟨fun _ => ?_, fun _ => ?_⟩
    · refine hX _ _ _ _ _ _ _ ?_
      exact q0 e he hen σ1 p1 s v hs h1
    · refine ⟨fun _ => ?_, fun h => absurd (h1.2.2.1.symm.trans h) (nI_ne1 (by omega))⟩
      refine hX _ _ _ _ _ _ _ ?_
      exact q0 e he hen σ1 p1 s v hs h1
  have fin : ∀ σ1 p1 s, I s → cnt s ≤ 14 → pTx t n L 14 (sk t n p) s0 = .inl s → PS (W s) σ1 p1 (-(nI 1)) 0 → X 23 [some (.ref 0), some (.int (nI 0)), some (.int (nI 0)), some (.int (nI (cnt s)))] [] sh_10 σ1 0 0 := by
    intro σ1 p1 s hs hc he h1
    refine hX _ _ _ _ _ _ _ ?_
    refine ⟨fun _ => ?_, fun h => absurd rfl h⟩
    refine hX _ _ _ _ _ _ _ ?_
    exact q1 s he hs hc σ1 p1 h1
  have badL : ∀ e σ1 p1 s c, I s → e ≤ n → p1 ≤ n + 8 → pTx t n L 14 (sk t n p) s0 = .inr e → PS (W s) σ1 p1 (nI e) 0 → X 80 [some (.ref 0), some (.int (nI 0)), some (.int (nI 1)), some (.int (nI c))] [] sh_10 σ1 0 0 := by
    intro e σ1 p1 s c hs hen hp1 he h1
    refine hX _ _ _ _ _ _ _ ?_
    refine g_skip (hT s) h1 (by omega) ?_
    intro σ2 h2
    refine ⟨fun _ => ?_, fun h => absurd (h2.2.2.1.symm.trans h) (nI_ne1 (by omega))⟩
    refine hX _ _ _ _ _ _ _ ?_
    exact bad e σ2 _ s _ _ hs hen he h2
  have loop : ∀ f σ1 p1 s, cnt s + f = 14 → I s → p1 ≤ n → PS (W s) σ1 p1 (-(nI 1)) 0 → pLs t n L f (sk t n p1) s = pTx t n L 14 (sk t n p) s0 → X 23 [some (.ref 0), some (.int (nI 0)), some (.int (nI 1)), some (.int (nI (cnt s)))] [] sh_10 σ1 0 0 := by
    intro f
    induction f with
    | zero =>
      intro σ1 p1 s hc hs hp1 h1 hR
      have hsl := sk_le (t := t) hp1
      refine hX _ _ _ _ _ _ _ ?_
      refine ⟨fun h => absurd h (by decide +kernel), fun _ => ?_⟩
      refine ⟨fun h => absurd h1.2.2.1 h, fun _ => ?_⟩
      refine g_skip (hT s) h1 (by omega) ?_
      intro σ2 h2
      refine ⟨fun _ => ?_, fun h => absurd rfl h⟩
      refine hX _ _ _ _ _ _ _ ?_
      refine hX _ _ _ _ _ _ _ ?_
      refine b_ne rfl (b := 14) rfl (by omega) (by omega) (fun h => by omega) (fun _ => ?_)
      refine g_wrong h2.2.1 h2 ?_
      intro σ3 h3
      exact badL _ σ3 _ s _ hs hsl (by omega) hR.symm h3
    | succ f ih =>
      intro σ1 p1 s hc hs hp1 h1 hR
      have hsl := sk_le (t := t) hp1
      have hg := hG (sk t n p1) s hsl sk_idem hs
      refine hX _ _ _ _ _ _ _ ?_
      refine ⟨fun h => absurd h (by decide +kernel), fun _ => ?_⟩
      refine ⟨fun h => absurd h1.2.2.1 h, fun _ => ?_⟩
      refine g_skip (hT s) h1 (by omega) ?_
      intro σ2 h2
      refine ⟨fun _ => ?_, fun h => absurd rfl h⟩
      refine hX _ _ _ _ _ _ _ ?_
      refine hX _ _ _ _ _ _ _ ?_
      refine b_ne rfl (b := 14) rfl (by omega) (by omega) (fun _ => ?_) (fun h => by omega)
      refine hX _ _ _ _ _ _ _ ?_
      refine ⟨fun _ => ?_, fun h => absurd rfl h⟩
      refine hX _ _ _ _ _ _ _ ?_
      rw [pLs] at hR
      refine hL σ2 _ s _ hsl hs h2 (fun b' s' e σ3 p3 a1 a2 a3 => ?_) (fun e he σ3 p3 a1 a2 => ?_)
      · rw [sk_idem] at e
        obtain ⟨g1, g2, g3, g4, g5⟩ := hg.1 b' s' e
        rw [e] at hR
        refine hX _ _ _ _ _ _ _ ?_
        refine g_skip (hT s') a3 (by omega) ?_
        intro σ4 h4
        rw [a2] at h4
        refine ⟨fun h => absurd h4.2.2.1 h, fun _ => ?_⟩
        have ec : nI (cnt s) + nI 1 = nI (cnt s') := by rw [g5]; exact nI_1 _
        refine b_ne h4.2.1 (h4.en (hT s')) (by omega) (by omega) (fun h5 => ?_) (fun h5 => ?_)
        · have hR2 : (if sgB t n b' 59 = true then pLs t n L f (nx t n b') s' else .inr b') = pTx t n L 14 (sk t n p) s0 := (if_neg h5).symm.trans hR
          refine hX _ _ _ _ _ _ _ ?_
          refine g_isSign (c := 59) rfl (hT s') h4 (by omega) (fun s1 σ5 h6 => ?_) (fun s1 σ5 h6 => ?_)
          · rw [g3] at s1 h6
            have hlt := (sgB_iff.mp s1).1
            have enx : nx t n b' = sk t n (b' + 1) := by unfold nx; rw [sgB_te s1 (by decide +kernel) (by decide +kernel)]
            rw [if_pos s1, enx] at hR2
            refine ⟨fun h => absurd h (by decide +kernel), fun _ => ?_⟩
            have h9 := ih _ (b' + 1) s' (by omega) g4 (by omega) (h6.at1 (v := σ5 0 11 + nI 1) (by rw [h6.2.1]; exact nI_1 b')) hR2
            rw [← ec] at h9
            exact h9
          · rw [g3] at s1 h6
            rw [if_neg s1] at hR2
            refine ⟨fun _ => ?_, fun h => absurd rfl h⟩
            refine hX _ _ _ _ _ _ _ ?_
            refine g_wrong h6.2.1 h6 ?_
            intro σ6 h7
            exact bad b' σ6 _ s' _ _ g4 g2 hR2.symm h7
        · refine hX _ _ _ _ _ _ _ ?_
          have hR2 : .inl s' = pTx t n L 14 (sk t n p) s0 := (if_pos h5).symm.trans hR
          have h9 := fin σ4 _ s' g4 (by omega) hR2.symm h4
          rw [← ec] at h9
          exact h9
      · rw [sk_idem] at he
        have hen := hg.2 e he
        rw [he] at hR
        exact badL e σ3 p3 s _ hs hen a1 hR.symm a2
  have hsl := sk_le (t := t) hp
  refine hX _ _ _ _ _ _ _ ?_
  refine g_skip (hT s0) hP (by omega) ?_
  intro σ1 h1
  refine b_ge h1.2.1 (h1.en (hT s0)) (by omega) (by omega) (fun h => ?_) (fun h => ?_)
  · refine hX _ _ _ _ _ _ _ ?_
    refine hX _ _ _ _ _ _ _ ?_
    have h9 := fin σ1 _ s0 hI (by omega) (by unfold pTx; rw [if_pos (by omega)]) h1
    rw [hc] at h9
    exact h9
  · refine hX _ _ _ _ _ _ _ ?_
    have h9 := loop 14 σ1 _ s0 (by omega) hI hsl h1 (by rw [sk_idem]; unfold pTx; rw [if_neg (by omega)])
    rw [hc] at h9
    exact h9
end RD
