/-! THE CLASS: atoms of a condition -/
section RPB
variable {t : Nat → Int32} {n d : Nat}
theorem c_atomStep {D dp dA : Nat} (hdp : dp + D = 6) (hS : ∀ D', D = D' + 1 → RP t n 285 (dA + 3) [.int (nI (dp + 1))] (pAtom t n D') ∧ RP t n 283 (dA + 3) [.int (nI (dp + 1))] (pSome t n (pAtom t n D'))) : RP t n 285 (dA + 4) [.int (nI dp)] (pAtom t n D) := by
  intro σ i ls c Q hT hL hlen q1 q0
  have hn := hT.1
  have hbl := bg_le (t := t) (n := n) i
  have hnl := nx_le (t := t) hbl
  refine ⟨rfl, fun X hX => ?_⟩
  -- a comparison, or a word
  have done : ∀ (o : Nat) (cc : List Int32) σ1 i1, o < 17 → pAtom t n D (bg t n i) = .inl (bg t n i1, cc ++ [cw (nI 0) o]) → (cat ls ++ (c ++ cc)).length < 400 → RTw σ1 t n i1 → RLw σ1 ls (c ++ cc) → X 223 [some (.ref 0), none, some (.int (nI o))] [] sh_5 σ1 0 0 := by
    intro o cc σ1 i1 ho e hl h1 h2
    refine hX _ _ _ _ _ _ _ ?_
    refine c_emit (o := o) (v := nI 0) rfl ho h2 hl ?_
    intro σ2 h3
    have h5 := RLw.of (σ := σ1) h3
    rw [List.append_assoc] at h5
    exact ⟨Or.inr rfl, q1 _ _ e _ i1 rfl h1.keep h5⟩
  have bad : ∀ L, (L = 221) → ∀ e σ1 i1, pAtom t n D (bg t n i) = .inr e → bg t n i1 = e → RTw σ1 t n i1 → RUw σ1 → X L [none, none, none] [] sh_5 σ1 0 0 := by
    rintro L rfl e σ1 i1 he e1 h1 h2
    refine hX _ _ _ _ _ _ _ ?_
    exact ⟨Or.inl rfl, q0 e he σ1 i1 e1 h1 h2⟩
  have plain : pAtom t n D (bg t n i) = pPlain t n (bg t n i) → ∀ σ1, RTw σ1 t n i → RLw σ1 ls c → X 106 [some (.ref 0), none, none] [] sh_5 σ1 0 0 := by
    intro e0
    have word : ∀ (o : Nat) (w : List Nat) σ1, 8 ≤ o → o ≤ 10 → 0 < w.length → wB t n (bg t n i) w = true → pPlain t n (bg t n i) = .inl (nx t n (bg t n i), [cw (nI 0) o]) → RTw σ1 t n (i + 1) → RLw σ1 ls c → X 158 [some (.ref 0), none, none] [.int (nI o)] sh_5 σ1 0 0 := by
      intro o w σ1 ho ho2 hw0 hw e h1 h2
      have hgt := nx_gt (t := t) (wB_lt hw hw0).1
      refine hX _ _ _ _ _ _ _ ?_
      refine ⟨fun _ => ?_, fun h => absurd h (oN_ne (by omega))⟩
      refine done o [] σ1 (i + 1) (by omega) (e0.trans e) (by rw [List.append_nil]; omega) h1 (by rw [List.append_nil]; exact h2)
    have cmp : ∀ (o z : Nat) σ1 i1 c1, (o = 13 ∨ o = 14) → bg t n i1 < n → pPlain t n (bg t n i) = pCmp t n o (bg t n i1) c1 → (cat ls ++ (c ++ c1)).length ≤ bg t n i1 → RTw σ1 t n (i1 + 1) → RLw σ1 ls (c ++ c1) → X 208 [some (.ref 0), none, none] [.int (nI o)] sh_5 σ1 0 0 := by
      intro o z σ1 i1 c1 ho hlt e hl h1 h2
      have hgt := nx_gt (t := t) hlt
      have hnl1 := nx_le (t := t) (Nat.le_of_lt hlt)
      have hgd := gd_sum (t := t) (nx t n (bg t n i1)) hnl1 nx_sk
      refine hX _ _ _ _ _ _ _ ?_
      refine ⟨fun h => absurd h (oN_ne (by omega)), fun _ => ?_⟩
      refine c_readsSum c_readsPart gd_part σ1 (i1 + 1) ls (c ++ c1) _ h1 h2 (by show _ ≤ nx t n (bg t n i1); omega) (fun b' c' e2 σ3 i3 e3 a1 a2 => ?_) (fun e2 he σ3 i3 e3 a1 a2 => ?_)
      · have e2 : pSum t n (nx t n (bg t n i1)) = .inl (b', c') := e2
        obtain ⟨g1, g2, g3, g4, g5⟩ := hgd.1 b' c' e2
        refine ⟨fun _ => ?_, fun h => absurd h (by decide +kernel)⟩
        refine done o (c1 ++ c') σ3 i3 (by omega) ?_ ?_ a1 (by rw [← List.append_assoc]; exact a2)
        · rw [e0, e, e3]; unfold pCmp; rw [e2]
        · simp only [List.length_append] at hl ⊢
          omega
      · have he : pSum t n (nx t n (bg t n i1)) = .inr e2 := he
        refine ⟨fun h => absurd rfl h, fun _ => ?_⟩
        exact bad _ rfl e2 σ3 i3 (by rw [e0, e]; unfold pCmp; rw [he]) e3 a1 a2
    have sums : ¬ wB t n (bg t n i) [115, 109, 111, 107, 101] = true → ¬ wB t n (bg t n i) [102, 97, 114] = true → ¬ wB t n (bg t n i) [102, 117, 108, 108] = true → ∀ σ1, RTw σ1 t n i → RLw σ1 ls c → X 157 [some (.ref 0), none, none] [] sh_5 σ1 0 0 := by
      intro w1 w2 w3 σ1 h1 h2
      have ep : pPlain t n (bg t n i) = (match pSum t n (bg t n i) with
        | .inl (b', c) => if sgB t n b' 60 = true then pCmp t n 13 b' c else if sgB t n b' 62 = true then pCmp t n 14 b' c else .inr b'
        | .inr e => .inr e) := by unfold pPlain; rw [if_neg w1, if_neg w2, if_neg w3]; rfl
      have hgd := gd_sum (t := t) (bg t n i) hbl (bg_sk i)
      refine hX _ _ _ _ _ _ _ ?_
      refine hX _ _ _ _ _ _ _ ?_
      refine ⟨fun h => absurd rfl h, fun _ => ?_⟩
      refine c_readsSum c_readsPart gd_part σ1 i ls c _ h1 h2 hlen (fun b' c' e2 σ3 i3 e3 a1 a2 => ?_) (fun e2 he σ3 i3 e3 a1 a2 => ?_)
      · have e2 : pSum t n (bg t n i) = .inl (b', c') := e2
        obtain ⟨g1, g2, g3, g4, g5⟩ := hgd.1 b' c' e2
        rw [e2] at ep
        have hl3 : (cat ls ++ (c ++ c')).length ≤ bg t n i3 := by
          rw [e3]
          simp only [List.length_append] at hlen ⊢
          omega
        refine ⟨fun _ => ?_, fun h => absurd h (by decide +kernel)⟩
        refine hX _ _ _ _ _ _ _ ?_
        refine c_takesSign (c := 60) rfl a1 (fun s1 σ4 k4 => ?_) (fun s1 => ?_)
        · refine ⟨fun h => absurd h (by decide +kernel), fun _ => ?_⟩
          exact cmp 13 60 _ i3 c' (Or.inl rfl) (sgB_iff.mp s1).1 (by rw [ep, e3]; rw [e3] at s1; exact if_pos s1) hl3 (RTw.of k4) a2.keep
        · refine ⟨fun _ => ?_, fun h => absurd rfl h⟩
          refine hX _ _ _ _ _ _ _ ?_
          refine c_takesSign (c := 62) rfl (RTw.of (σ := σ3) a1) (fun s2 σ4 k4 => ?_) (fun s2 => ?_)
          · refine ⟨fun h => absurd h (by decide +kernel), fun _ => ?_⟩
            exact cmp 14 62 _ i3 c' (Or.inr rfl) (sgB_iff.mp s2).1 (by rw [ep, e3]; rw [e3] at s1 s2; exact (if_neg s1).trans (if_pos s2)) hl3 (RTw.of k4) (RLw.keep (RLw.keep a2))
          · refine ⟨fun _ => ?_, fun h => absurd rfl h⟩
            refine hX _ _ _ _ _ _ _ ?_
            refine hX _ _ _ _ _ _ _ ?_
            refine ⟨fun _ => ?_, fun h => absurd rfl h⟩
            have hu := a2.u (by omega)
            exact bad _ rfl b' _ i3 (by rw [e0, ep]; rw [e3] at s1 s2; exact (if_neg s1).trans (if_neg s2)) e3 (RTw.of (σ := _) a1) (RUw.keep (RUw.keep hu))
      · have he : pSum t n (bg t n i) = .inr e2 := he
        rw [he] at ep
        refine ⟨fun h => absurd rfl h, fun _ => ?_⟩
        exact ⟨Or.inl rfl, q0 e2 (e0.trans ep) σ3 i3 e3 a1 a2⟩
    have w140 : ¬ wB t n (bg t n i) [115, 109, 111, 107, 101] = true → ¬ wB t n (bg t n i) [102, 97, 114] = true → ∀ σ1, RTw σ1 t n i → RLw σ1 ls c → X 140 [some (.ref 0), none, none] [] sh_5 σ1 0 0 := by
      intro w1 w2 σ1 h1 h2
      refine hX _ _ _ _ _ _ _ ?_
      refine c_tw_7 h1 (fun z σ2 k2 => ?_) (fun z => ?_)
      · refine ⟨fun h => absurd h (by decide +kernel), fun _ => ?_⟩
        exact word 10 _ _ (by omega) (by omega) (by decide) z (by unfold pPlain; rw [if_neg w1, if_neg w2, if_pos z]) (RTw.of k2) h2.keep
      · refine ⟨fun _ => ?_, fun h => absurd rfl h⟩
        exact sums w1 w2 z _ (RTw.of h1) h2.keep
    have w123 : ¬ wB t n (bg t n i) [115, 109, 111, 107, 101] = true → ∀ σ1, RTw σ1 t n i → RLw σ1 ls c → X 123 [some (.ref 0), none, none] [] sh_5 σ1 0 0 := by
      intro w1 σ1 h1 h2
      refine hX _ _ _ _ _ _ _ ?_
      refine c_tw_6 h1 (fun z σ2 k2 => ?_) (fun z => ?_)
      · refine ⟨fun h => absurd h (by decide +kernel), fun _ => ?_⟩
        exact word 9 _ _ (by omega) (by omega) (by decide) z (by unfold pPlain; rw [if_neg w1, if_pos z]) (RTw.of k2) h2.keep
      · refine ⟨fun _ => ?_, fun h => absurd rfl h⟩
        exact w140 w1 z _ (RTw.of h1) h2.keep
    intro σ1 h1 h2
    refine hX _ _ _ _ _ _ _ ?_
    refine c_tw_5 h1 (fun z σ2 k2 => ?_) (fun z => ?_)
    · refine ⟨fun h => absurd h (by decide +kernel), fun _ => ?_⟩
      exact word 8 _ _ (by omega) (by omega) (by decide) z (by unfold pPlain; rw [if_pos z]) (RTw.of k2) h2.keep
    · refine ⟨fun _ => ?_, fun h => absurd rfl h⟩
      exact w123 z _ (RTw.of h1) h2.keep
  -- in brackets
  have par0 : ∀ e σ1 i1, pAtom t n D (bg t n i) = .inr e → bg t n i1 = e → RTw σ1 t n i1 → RUw σ1 → X 83 [some (.ref 0), none, none] [.int (nI 0)] sh_5 σ1 0 0 := by
    intro e σ1 i1 he e1 h1 h2
    refine hX _ _ _ _ _ _ _ ?_
    refine ⟨fun _ => ?_, fun h => absurd rfl h⟩
    refine hX _ _ _ _ _ _ _ ?_
    refine hX _ _ _ _ _ _ _ ?_
    exact ⟨Or.inl rfl, q0 e he σ1 i1 e1 h1 h2⟩
  have not0 : ∀ e σ1 i1, pAtom t n D (bg t n i) = .inr e → bg t n i1 = e → RTw σ1 t n i1 → RUw σ1 → X 35 [some (.ref 0), none, none] [.int (nI 0)] sh_5 σ1 0 0 := by
    intro e σ1 i1 he e1 h1 h2
    refine hX _ _ _ _ _ _ _ ?_
    refine c_emitU h2 ?_
    intro σ2 h3
    exact ⟨Or.inl rfl, q0 e he _ i1 e1 h1.keep (RUw.of h3)⟩
  have sign : ¬ wB t n (bg t n i) [110, 111, 116] = true → ∀ σ1, RTw σ1 t n i → RLw σ1 ls c → X 48 [some (.ref 0), some (.int (nI dp)), none] [] sh_5 σ1 0 0 := by
    intro w1 σ1 h1 h2
    have hu := h2.u (by omega)
    refine hX _ _ _ _ _ _ _ ?_
    refine c_takesSign (c := 40) rfl h1 (fun s1 σ2 k2 => ?_) (fun s1 => ?_)
    · refine ⟨fun h => absurd h (by decide +kernel), fun _ => ?_⟩
      have hlt := (sgB_iff.mp s1).1
      have hgt := nx_gt (t := t) hlt
      refine b_ge rfl (b := 6) rfl (by omega) (by omega) (fun h => ?_) (fun h => ?_)
      · have eD : D = 0 := by omega
        subst eD
        refine hX _ _ _ _ _ _ _ ?_
        refine c_refuse (i := i) (RTw.of (σ := σ1) k2) ?_
        intro σ3 k3
        exact par0 (bg t n i) _ i (by unfold pAtom; rw [if_neg w1, if_pos s1]) rfl (RTw.of k3) (RUw.keep (RUw.keep hu))
      · obtain ⟨D', eD⟩ : ∃ D', D = D' + 1 := ⟨D - 1, by omega⟩
        have hA := (hS D' eD).2
        subst eD
        have e0 : pAtom t n (D' + 1) (bg t n i) = pPar t n (pAtom t n D') (bg t n i) := by rw [pAtom]; exact (if_neg w1).trans (if_pos s1)
        have hgd := gd_some (gd_atom (t := t) (n := n) D') (nx t n (bg t n i)) hnl nx_sk
        rw [← nI_1 dp] at hA
        refine hA _ (i + 1) ls c _ (RTw.of k2) (RLw.keep h2) (by show _ ≤ nx t n (bg t n i); omega) (fun b' c' e2 σ3 i3 e3 a1 a2 => ?_) (fun e2 he σ3 i3 e3 a1 a2 => ?_)
        · have e2 : pSome t n (pAtom t n D') (nx t n (bg t n i)) = .inl (b', c') := e2
          obtain ⟨g1, g2, g3, g4, g5⟩ := hgd.1 b' c' e2
          refine hX _ _ _ _ _ _ _ ?_
          refine ⟨fun h => absurd h (by decide +kernel), fun _ => ?_⟩
          refine c_takesSign (c := 41) rfl a1 (fun s3 σ4 k4 => ?_) (fun s3 => ?_)
          · rw [e3] at s3
            refine ⟨fun h => absurd h (by decide +kernel), fun _ => ?_⟩
            refine hX _ _ _ _ _ _ _ ?_
            exact ⟨Or.inr rfl, q1 (nx t n b') c' (by rw [e0]; unfold pPar; rw [e2]; exact if_pos s3) _ (i3 + 1) (by show nx t n (bg t n i3) = _; rw [e3]) (RTw.of k4) a2.keep⟩
          · rw [e3] at s3
            refine ⟨fun _ => ?_, fun h => absurd rfl h⟩
            refine hX _ _ _ _ _ _ _ ?_
            refine hX _ _ _ _ _ _ _ ?_
            have hu3 := a2.u (by simp only [List.length_append] at hlen ⊢; omega)
            exact ⟨Or.inl rfl, q0 b' (by rw [e0]; unfold pPar; rw [e2]; exact if_neg s3) _ i3 e3 (RTw.of (σ := σ3) a1) (RUw.keep hu3)⟩
        · have he : pSome t n (pAtom t n D') (nx t n (bg t n i)) = .inr e2 := he
          exact par0 e2 σ3 i3 (by rw [e0]; unfold pPar; rw [he]) e3 a1 a2
    · refine ⟨fun _ => ?_, fun h => absurd rfl h⟩
      refine plain ?_ _ (RTw.of (σ := σ1) h1) h2.keep
      cases D with
      | zero => unfold pAtom; rw [if_neg w1, if_neg s1]
      | succ D => rw [pAtom]; exact (if_neg w1).trans (if_neg s1)
  have hu := hL.u (by omega)
  refine hX _ _ _ _ _ _ _ ?_
  refine c_tw_4 hT (fun w1 σ2 k2 => ?_) (fun w1 => ?_)
  · refine ⟨fun h => absurd h (by decide +kernel), fun _ => ?_⟩
    have hlt := (wB_lt w1 (by decide)).1
    have hgt := nx_gt (t := t) hlt
    refine b_ge rfl (b := 6) rfl (by omega) (by omega) (fun h => ?_) (fun h => ?_)
    · have eD : D = 0 := by omega
      subst eD
      refine hX _ _ _ _ _ _ _ ?_
      refine c_refuse (i := i) (RTw.of (σ := σ) k2) ?_
      intro σ3 k3
      exact not0 (bg t n i) _ i (by unfold pAtom; rw [if_pos w1]) rfl (RTw.of k3) (RUw.keep (RUw.keep hu))
    · obtain ⟨D', eD⟩ : ∃ D', D = D' + 1 := ⟨D - 1, by omega⟩
      have hA := (hS D' eD).1
      subst eD
      have e0 : pAtom t n (D' + 1) (bg t n i) = pNot t n (pAtom t n D') (bg t n i) := by rw [pAtom]; exact if_pos w1
      have hgd := gd_atom (t := t) (n := n) D' (nx t n (bg t n i)) hnl nx_sk
      rw [← nI_1 dp] at hA
      refine hA _ (i + 1) ls c _ (RTw.of k2) (RLw.keep hL) (by show _ ≤ nx t n (bg t n i); omega) (fun b' c' e2 σ3 i3 e3 a1 a2 => ?_) (fun e2 he σ3 i3 e3 a1 a2 => ?_)
      · have e2 : pAtom t n D' (nx t n (bg t n i)) = .inl (b', c') := e2
        obtain ⟨g1, g2, g3, g4, g5⟩ := hgd.1 b' c' e2
        refine hX _ _ _ _ _ _ _ ?_
        refine c_emit (o := 11) (v := nI 0) rfl (by omega) a2 (by simp only [List.length_append] at hlen ⊢; omega) ?_
        intro σ4 h4
        have h5 := RLw.of (σ := σ3) h4
        rw [List.append_assoc] at h5
        exact ⟨Or.inr rfl, q1 b' (c' ++ [cw (nI 0) 11]) (by rw [e0]; unfold pNot; rw [e2]) _ i3 e3 a1.keep h5⟩
      · have he : pAtom t n D' (nx t n (bg t n i)) = .inr e2 := he
        exact not0 e2 σ3 i3 (by rw [e0]; unfold pNot; rw [he]) e3 a1 a2
  · refine ⟨fun _ => ?_, fun h => absurd rfl h⟩
    exact sign w1 _ (RTw.of (σ := σ) hT) hL.keep
theorem c_atoms : ∀ (D d dp : Nat), dp + D = 6 → RP t n 285 (d + 3 * D + 4) [.int (nI dp)] (pAtom t n D) := by
  intro D
  induction D with
  | zero =>
    intro d dp h
    exact c_atomStep (dA := d) h (fun D' e => by omega)
  | succ D ih =>
    intro d dp h
    rw [show d + 3 * (D + 1) + 4 = (d + 3 * D + 3) + 4 by omega]
    refine c_atomStep h (fun D' e => ?_)
    have e : D' = D := by omega
    subst e
    have h1 := ih (d + 2) (dp + 1) (by omega)
    rw [show d + 2 + 3 * D' + 4 = d + 3 * D' + 3 + 3 by omega] at h1
    have h2 := ih d (dp + 1) (by omega)
    refine ⟨h1, ?_⟩
    exact c_readsAny (c_readsAll h2 (gd_atom D')) (gd_every (gd_atom D'))
end RPB
