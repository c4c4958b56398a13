/-! THE CLASS: it reads a condition -/
/-- of a method of the reader that reads a piece A of a text into code -/
def RP (t : Nat → Int32) (n j d : Nat) (args : List Value) (A : Nat → pR) : Prop := ∀ (σ : mSg) (i : Nat) (ls : List lLn) (c : List Int32) (Q : mPst), RTw σ t n i → RLw σ ls c → (cat ls ++ c).length ≤ bg t n i →
  (∀ b' c', A (bg t n i) = .inl (b', c') → ∀ σ' i', bg t n i' = b' → RTw σ' t n i' → RLw σ' ls (c ++ c') → Q (.inl (some (.int (nI 1)))) sh_5 σ') →
  (∀ e, A (bg t n i) = .inr e → ∀ σ' i', bg t n i' = e → RTw σ' t n i' → RUw σ' → Q (.inl (some (.int (nI 0)))) sh_5 σ') → mD d j (.ref 0 :: args) sh_5 σ Q
section RPA
variable {t : Nat → Int32} {n d : Nat}
theorem c_readsPart : RP t n 287 (d + 2) [] (pPart t n) := by
  intro σ i ls c Q hT hL hlen q1 q0
  have hn := hT.1
  have hbl := bg_le (t := t) (n := n) i
  refine ⟨rfl, fun X hX => ?_⟩
  have found : ∀ k w σ1, k < 7 → 0 < w.length → wB t n (bg t n i) w = true → pPart t n (bg t n i) = .inl (nx t n (bg t n i), [cw (nI 0) (k + 1)]) → RTw σ1 t n (i + 1) → RLw σ1 ls c → X 143 [some (.ref 0), none, none] [.int (nI (k + 1))] sh_5 σ1 0 0 := by
    intro k w σ1 hk hw0 hw e h1 h2
    have hgt := nx_gt (t := t) (wB_lt hw hw0).1
    have hnl := nx_le (t := t) hbl
    refine hX _ _ _ _ _ _ _ ?_
    refine c_emit (o := k + 1) (v := nI 0) rfl (by omega) h2 (by omega) ?_
    intro σ2 h3
    refine ⟨fun h => absurd h (oN_ne (by omega)), fun _ => ?_⟩
    refine hX _ _ _ _ _ _ _ ?_
    exact ⟨Or.inr rfl, q1 _ _ e _ (i + 1) rfl h1.keep (RLw.of h3)⟩
  have none1 : ∀ σ1, pPart t n (bg t n i) = .inr (bg t n i) → RTw σ1 t n i → RLw σ1 ls c → X 142 [some (.ref 0), none, none] [] sh_5 σ1 0 0 := by
    intro σ1 e h1 h2
    refine hX _ _ _ _ _ _ _ ?_
    refine hX _ _ _ _ _ _ _ ?_
    refine c_emitU (h2.u (by omega)) ?_
    intro σ2 h3
    refine ⟨fun _ => ?_, fun h => absurd rfl h⟩
    refine hX _ _ _ _ _ _ _ ?_
    refine hX _ _ _ _ _ _ _ ?_
    exact ⟨Or.inl rfl, q0 _ e _ i rfl h1.keep (RUw.of h3)⟩
  have s125 : ¬ nB t n (bg t n i) (nI 0) (nI 999) = true → ¬ wB t n (bg t n i) [115, 116, 114, 101, 101, 116] = true → ¬ wB t n (bg t n i) [120] = true → ¬ wB t n (bg t n i) [121] = true → ¬ wB t n (bg t n i) [119, 97, 105, 116, 115] = true → ¬ wB t n (bg t n i) [108, 111, 97, 100, 115] = true → ¬ wB t n (bg t n i) [116, 105, 108, 108] = true → ∀ σ1, RTw σ1 t n i → RLw σ1 ls c → X 125 [some (.ref 0), none, none] [] sh_5 σ1 0 0 := by
    intro hN w0 w1 w2 w3 w4 w5 σ1 h1 h2
    refine hX _ _ _ _ _ _ _ ?_
    refine c_tw_14 h1 (fun z σ2 k2 => ?_) (fun z => ?_)
    · refine ⟨fun h => absurd h (by decide +kernel), fun _ => ?_⟩
      exact found 6 _ _ (by omega) (by decide) z (by unfold pPart; rw [if_neg hN, pW, if_neg w0, pW, if_neg w1, pW, if_neg w2, pW, if_neg w3, pW, if_neg w4, pW, if_neg w5, pW, if_pos z]) (RTw.of k2) h2.keep
    · refine ⟨fun _ => ?_, fun h => absurd rfl h⟩
      exact none1 _ (by unfold pPart; rw [if_neg hN, pW, if_neg w0, pW, if_neg w1, pW, if_neg w2, pW, if_neg w3, pW, if_neg w4, pW, if_neg w5, pW, if_neg z, pW]) (RTw.of h1) h2.keep
  have s108 : ¬ nB t n (bg t n i) (nI 0) (nI 999) = true → ¬ wB t n (bg t n i) [115, 116, 114, 101, 101, 116] = true → ¬ wB t n (bg t n i) [120] = true → ¬ wB t n (bg t n i) [121] = true → ¬ wB t n (bg t n i) [119, 97, 105, 116, 115] = true → ¬ wB t n (bg t n i) [108, 111, 97, 100, 115] = true → ∀ σ1, RTw σ1 t n i → RLw σ1 ls c → X 108 [some (.ref 0), none, none] [] sh_5 σ1 0 0 := by
    intro hN w0 w1 w2 w3 w4 σ1 h1 h2
    refine hX _ _ _ _ _ _ _ ?_
    refine c_tw_13 h1 (fun z σ2 k2 => ?_) (fun z => ?_)
    · refine ⟨fun h => absurd h (by decide +kernel), fun _ => ?_⟩
      exact found 5 _ _ (by omega) (by decide) z (by unfold pPart; rw [if_neg hN, pW, if_neg w0, pW, if_neg w1, pW, if_neg w2, pW, if_neg w3, pW, if_neg w4, pW, if_pos z]) (RTw.of k2) h2.keep
    · refine ⟨fun _ => ?_, fun h => absurd rfl h⟩
      exact s125 hN w0 w1 w2 w3 w4 z _ (RTw.of h1) h2.keep
  have s92 : ¬ nB t n (bg t n i) (nI 0) (nI 999) = true → ¬ wB t n (bg t n i) [115, 116, 114, 101, 101, 116] = true → ¬ wB t n (bg t n i) [120] = true → ¬ wB t n (bg t n i) [121] = true → ¬ wB t n (bg t n i) [119, 97, 105, 116, 115] = true → ∀ σ1, RTw σ1 t n i → RLw σ1 ls c → X 92 [some (.ref 0), none, none] [] sh_5 σ1 0 0 := by
    intro hN w0 w1 w2 w3 σ1 h1 h2
    refine hX _ _ _ _ _ _ _ ?_
    refine c_tw_12 h1 (fun z σ2 k2 => ?_) (fun z => ?_)
    · refine ⟨fun h => absurd h (by decide +kernel), fun _ => ?_⟩
      exact found 4 _ _ (by omega) (by decide) z (by unfold pPart; rw [if_neg hN, pW, if_neg w0, pW, if_neg w1, pW, if_neg w2, pW, if_neg w3, pW, if_pos z]) (RTw.of k2) h2.keep
    · refine ⟨fun _ => ?_, fun h => absurd rfl h⟩
      exact s108 hN w0 w1 w2 w3 z _ (RTw.of h1) h2.keep
  have s76 : ¬ nB t n (bg t n i) (nI 0) (nI 999) = true → ¬ wB t n (bg t n i) [115, 116, 114, 101, 101, 116] = true → ¬ wB t n (bg t n i) [120] = true → ¬ wB t n (bg t n i) [121] = true → ∀ σ1, RTw σ1 t n i → RLw σ1 ls c → X 76 [some (.ref 0), none, none] [] sh_5 σ1 0 0 := by
    intro hN w0 w1 w2 σ1 h1 h2
    refine hX _ _ _ _ _ _ _ ?_
    refine c_tw_11 h1 (fun z σ2 k2 => ?_) (fun z => ?_)
    · refine ⟨fun h => absurd h (by decide +kernel), fun _ => ?_⟩
      exact found 3 _ _ (by omega) (by decide) z (by unfold pPart; rw [if_neg hN, pW, if_neg w0, pW, if_neg w1, pW, if_neg w2, pW, if_pos z]) (RTw.of k2) h2.keep
    · refine ⟨fun _ => ?_, fun h => absurd rfl h⟩
      exact s92 hN w0 w1 w2 z _ (RTw.of h1) h2.keep
  have s60 : ¬ nB t n (bg t n i) (nI 0) (nI 999) = true → ¬ wB t n (bg t n i) [115, 116, 114, 101, 101, 116] = true → ¬ wB t n (bg t n i) [120] = true → ∀ σ1, RTw σ1 t n i → RLw σ1 ls c → X 60 [some (.ref 0), none, none] [] sh_5 σ1 0 0 := by
    intro hN w0 w1 σ1 h1 h2
    refine hX _ _ _ _ _ _ _ ?_
    refine c_tw_10 h1 (fun z σ2 k2 => ?_) (fun z => ?_)
    · refine ⟨fun h => absurd h (by decide +kernel), fun _ => ?_⟩
      exact found 2 _ _ (by omega) (by decide) z (by unfold pPart; rw [if_neg hN, pW, if_neg w0, pW, if_neg w1, pW, if_pos z]) (RTw.of k2) h2.keep
    · refine ⟨fun _ => ?_, fun h => absurd rfl h⟩
      exact s76 hN w0 w1 z _ (RTw.of h1) h2.keep
  have s44 : ¬ nB t n (bg t n i) (nI 0) (nI 999) = true → ¬ wB t n (bg t n i) [115, 116, 114, 101, 101, 116] = true → ∀ σ1, RTw σ1 t n i → RLw σ1 ls c → X 44 [some (.ref 0), none, none] [] sh_5 σ1 0 0 := by
    intro hN w0 σ1 h1 h2
    refine hX _ _ _ _ _ _ _ ?_
    refine c_tw_9 h1 (fun z σ2 k2 => ?_) (fun z => ?_)
    · refine ⟨fun h => absurd h (by decide +kernel), fun _ => ?_⟩
      exact found 1 _ _ (by omega) (by decide) z (by unfold pPart; rw [if_neg hN, pW, if_neg w0, pW, if_pos z]) (RTw.of k2) h2.keep
    · refine ⟨fun _ => ?_, fun h => absurd rfl h⟩
      exact s60 hN w0 z _ (RTw.of h1) h2.keep
  have s28 : ¬ nB t n (bg t n i) (nI 0) (nI 999) = true → ∀ σ1, RTw σ1 t n i → RLw σ1 ls c → X 28 [some (.ref 0), none, none] [] sh_5 σ1 0 0 := by
    intro hN σ1 h1 h2
    refine hX _ _ _ _ _ _ _ ?_
    refine c_tw_8 h1 (fun z σ2 k2 => ?_) (fun z => ?_)
    · refine ⟨fun h => absurd h (by decide +kernel), fun _ => ?_⟩
      exact found 0 _ _ (by omega) (by decide) z (by unfold pPart; rw [if_neg hN, pW, if_pos z]) (RTw.of k2) h2.keep
    · refine ⟨fun _ => ?_, fun h => absurd rfl h⟩
      exact s44 hN z _ (RTw.of h1) h2.keep
  refine hX _ _ _ _ _ _ _ ?_
  refine c_takeNumber (lo := nI 0) (hi := nI 999) hT (fun h1 σ1 k1 => ?_) (fun h1 => ?_)
  · obtain ⟨j, -, hj, ej⟩ := nB_val h1 (by omega) (by omega)
    have hgt := nx_gt (t := t) (nB_lt h1).1
    have hnl := nx_le (t := t) hbl
    refine ⟨fun h => absurd (ej.symm.trans h) (oN_ne (by omega)), fun _ => ?_⟩
    refine c_emit (o := 0) rfl (by omega) (RLw.keep hL) (by omega) ?_
    intro σ2 h3
    exact ⟨Or.inr rfl, q1 (nx t n (bg t n i)) [cw (nV t n (bg t n i)) 0] (by unfold pPart; rw [if_pos h1]) _ (i + 1) rfl (RTw.keep (RTw.of k1)) (RLw.of h3)⟩
  · refine ⟨fun _ => ?_, fun h => absurd rfl h⟩
    exact s28 h1 _ (RTw.of hT) hL.keep
theorem c_readsSum {A : Nat → pR} {kA dA : Nat} (hA : RP t n 287 (dA + 1) [] A) (hG : Good t n kA A) : RP t n 286 (dA + 2) [] (pSeq t n (fun b => sgB t n b 43) A 12) := by
  intro σ i ls c Q hT hL hlen q1 q0
  have hn := hT.1
  refine ⟨rfl, fun X hX => ?_⟩
  have loop : ∀ f σ1 i1 cc k, n < f + bg t n i1 → 2 * k ≤ bg t n i1 → RTw σ1 t n i1 → RLw σ1 ls (c ++ cc) → (cat ls ++ (c ++ cc)).length ≤ bg t n i1 → pLoop t n (fun b => sgB t n b 43) A 12 f (bg t n i1) cc = pSeq t n (fun b => sgB t n b 43) A 12 (bg t n i) → X 11 [some (.ref 0), some (.int (nI k))] [] sh_5 σ1 0 0 := by
    intro f
    induction f with
    | zero =>
      intro σ1 i1 cc k hf hk h1 h2 h3 hR
      have := bg_le (t := t) (n := n) i1
      omega
    | succ f ih =>
      intro σ1 i1 cc k hf hk h1 h2 h3 hR
      have hbl := bg_le (t := t) (n := n) i1
      refine hX _ _ _ _ _ _ _ ?_
      refine b_ge rfl (b := 400) rfl (by omega) (by omega) (fun h => by omega) (fun _ => ?_)
      refine c_takesSign (c := 43) rfl h1 (fun s1 σ2 k2 => ?_) (fun s1 => ?_)
      · refine ⟨fun h => absurd h (by decide +kernel), fun _ => ?_⟩
        have hlt : bg t n i1 < n := (sgB_iff.mp s1).1
        have hgt := nx_gt (t := t) hlt
        have hnl := nx_le (t := t) hbl
        have hgd := hG (nx t n (bg t n i1)) hnl nx_sk
        rw [pLoop, if_pos s1] at hR
        refine hA _ (i1 + 1) ls (c ++ cc) _ (RTw.of k2) (RLw.keep h2) (by show _ ≤ nx t n (bg t n i1); omega) (fun b' c' e σ3 i3 e3 a1 a2 => ?_) (fun e he σ3 i3 e3 a1 a2 => ?_)
        · have e : A (nx t n (bg t n i1)) = .inl (b', c') := e
          obtain ⟨g1, g2, g3, g4, g5⟩ := hgd.1 b' c' e
          rw [e] at hR
          have hln : (cat ls ++ (c ++ cc ++ c')).length < b' := by
            simp only [List.length_append] at h3 ⊢
            omega
          refine ⟨fun _ => ?_, fun h => absurd h (by decide +kernel)⟩
          refine hX _ _ _ _ _ _ _ ?_
          refine c_emit (o := 12) (v := nI 0) rfl (by omega) a2 (by omega) ?_
          intro σ4 h4
          have h5 := RLw.of (σ := σ3) h4
          rw [show c ++ cc ++ c' ++ [cw (nI 0) 12] = c ++ (cc ++ c' ++ [cw (nI 0) 12]) by simp only [List.append_assoc]] at h5
          have h9 := ih _ i3 (cc ++ c' ++ [cw (nI 0) 12]) (k + 1) (by rw [e3]; omega) (by rw [e3]; omega) (RTw.keep a1) h5 (by rw [e3]; simp only [List.length_append, List.length_singleton] at hln ⊢; omega) (by rw [e3]; exact hR)
          rw [← nI_1 k] at h9
          exact h9
        · have he : A (nx t n (bg t n i1)) = .inr e := he
          rw [he] at hR
          refine ⟨fun h => absurd rfl h, fun _ => ?_⟩
          exact ⟨Or.inl rfl, q0 e hR.symm σ3 i3 e3 a1 a2⟩
      · refine ⟨fun _ => ?_, fun h => absurd rfl h⟩
        rw [pLoop, if_neg s1] at hR
        refine hX _ _ _ _ _ _ _ ?_
        exact ⟨Or.inr rfl, q1 _ _ hR.symm _ i1 rfl (RTw.of h1) (RLw.keep h2)⟩
  have hgd := hG (bg t n i) (bg_le i) (bg_sk i)
  refine hX _ _ _ _ _ _ _ ?_
  refine hA σ i ls c _ hT hL hlen (fun b' c' e σ3 i3 e3 a1 a2 => ?_) (fun e he σ3 i3 e3 a1 a2 => ?_)
  · obtain ⟨g1, g2, g3, g4, g5⟩ := hgd.1 b' c' e
    refine ⟨fun _ => ?_, fun h => absurd h (by decide +kernel)⟩
    refine hX _ _ _ _ _ _ _ ?_
    exact loop 401 σ3 i3 c' 0 (by omega) (by omega) a1 a2 (by rw [e3]; simp only [List.length_append] at hlen ⊢; omega) (by unfold pSeq; rw [e, e3])
  · refine ⟨fun h => absurd rfl h, fun _ => ?_⟩
    exact ⟨Or.inl rfl, q0 e (by unfold pSeq; rw [he]) σ3 i3 e3 a1 a2⟩
theorem c_readsAll {A : Nat → pR} {kA dA : Nat} {v : Int32} (hA : RP t n 285 (dA + 1) [.int v] A) (hG : Good t n kA A) : RP t n 284 (dA + 2) [.int v] (pSeq t n (fun b => wB t n b [97, 110, 100]) A 15) := by
  intro σ i ls c Q hT hL hlen q1 q0
  have hn := hT.1
  refine ⟨rfl, fun X hX => ?_⟩
  have loop : ∀ f σ1 i1 cc k, n < f + bg t n i1 → 2 * k ≤ bg t n i1 → RTw σ1 t n i1 → RLw σ1 ls (c ++ cc) → (cat ls ++ (c ++ cc)).length ≤ bg t n i1 → pLoop t n (fun b => wB t n b [97, 110, 100]) A 15 f (bg t n i1) cc = pSeq t n (fun b => wB t n b [97, 110, 100]) A 15 (bg t n i) → X 12 [some (.ref 0), some (.int v), some (.int (nI k))] [] sh_5 σ1 0 0 := by
    intro f
    induction f with
    | zero =>
      intro σ1 i1 cc k hf hk h1 h2 h3 hR
      have := bg_le (t := t) (n := n) i1
      omega
    | succ f ih =>
      intro σ1 i1 cc k hf hk h1 h2 h3 hR
      have hbl := bg_le (t := t) (n := n) i1
      refine hX _ _ _ _ _ _ _ ?_
      refine b_ge rfl (b := 400) rfl (by omega) (by omega) (fun h => by omega) (fun _ => ?_)
      refine c_tw_15 h1 (fun s1 σ2 k2 => ?_) (fun s1 => ?_)
      · refine ⟨fun h => absurd h (by decide +kernel), fun _ => ?_⟩
        have hlt : bg t n i1 < n := (wB_lt s1 (by decide)).1
        have hgt := nx_gt (t := t) hlt
        have hnl := nx_le (t := t) hbl
        have hgd := hG (nx t n (bg t n i1)) hnl nx_sk
        rw [pLoop, if_pos s1] at hR
        refine hA _ (i1 + 1) ls (c ++ cc) _ (RTw.of k2) (RLw.keep h2) (by show _ ≤ nx t n (bg t n i1); omega) (fun b' c' e σ3 i3 e3 a1 a2 => ?_) (fun e he σ3 i3 e3 a1 a2 => ?_)
        · have e : A (nx t n (bg t n i1)) = .inl (b', c') := e
          obtain ⟨g1, g2, g3, g4, g5⟩ := hgd.1 b' c' e
          rw [e] at hR
          have hln : (cat ls ++ (c ++ cc ++ c')).length < b' := by
            simp only [List.length_append] at h3 ⊢
            omega
          refine ⟨fun _ => ?_, fun h => absurd h (by decide +kernel)⟩
          refine hX _ _ _ _ _ _ _ ?_
          refine c_emit (o := 15) (v := nI 0) rfl (by omega) a2 (by omega) ?_
          intro σ4 h4
          have h5 := RLw.of (σ := σ3) h4
          rw [show c ++ cc ++ c' ++ [cw (nI 0) 15] = c ++ (cc ++ c' ++ [cw (nI 0) 15]) by simp only [List.append_assoc]] at h5
          have h9 := ih _ i3 (cc ++ c' ++ [cw (nI 0) 15]) (k + 1) (by rw [e3]; omega) (by rw [e3]; omega) (RTw.keep a1) h5 (by rw [e3]; simp only [List.length_append, List.length_singleton] at hln ⊢; omega) (by rw [e3]; exact hR)
          rw [← nI_1 k] at h9
          exact h9
        · have he : A (nx t n (bg t n i1)) = .inr e := he
          rw [he] at hR
          refine ⟨fun h => absurd rfl h, fun _ => ?_⟩
          exact ⟨Or.inl rfl, q0 e hR.symm σ3 i3 e3 a1 a2⟩
      · refine ⟨fun _ => ?_, fun h => absurd rfl h⟩
        rw [pLoop, if_neg s1] at hR
        refine hX _ _ _ _ _ _ _ ?_
        exact ⟨Or.inr rfl, q1 _ _ hR.symm _ i1 rfl (RTw.of h1) (RLw.keep h2)⟩
  have hgd := hG (bg t n i) (bg_le i) (bg_sk i)
  refine hX _ _ _ _ _ _ _ ?_
  refine hA σ i ls c _ hT hL hlen (fun b' c' e σ3 i3 e3 a1 a2 => ?_) (fun e he σ3 i3 e3 a1 a2 => ?_)
  · obtain ⟨g1, g2, g3, g4, g5⟩ := hgd.1 b' c' e
    refine ⟨fun _ => ?_, fun h => absurd h (by decide +kernel)⟩
    refine hX _ _ _ _ _ _ _ ?_
    exact loop 401 σ3 i3 c' 0 (by omega) (by omega) a1 a2 (by rw [e3]; simp only [List.length_append] at hlen ⊢; omega) (by unfold pSeq; rw [e, e3])
  · refine ⟨fun h => absurd rfl h, fun _ => ?_⟩
    exact ⟨Or.inl rfl, q0 e (by unfold pSeq; rw [he]) σ3 i3 e3 a1 a2⟩
theorem c_readsAny {A : Nat → pR} {kA dA : Nat} {v : Int32} (hA : RP t n 284 (dA + 1) [.int v] A) (hG : Good t n kA A) : RP t n 283 (dA + 2) [.int v] (pSeq t n (fun b => wB t n b [111, 114]) A 16) := by
  intro σ i ls c Q hT hL hlen q1 q0
  have hn := hT.1
  refine ⟨rfl, fun X hX => ?_⟩
  have loop : ∀ f σ1 i1 cc k, n < f + bg t n i1 → 2 * k ≤ bg t n i1 → RTw σ1 t n i1 → RLw σ1 ls (c ++ cc) → (cat ls ++ (c ++ cc)).length ≤ bg t n i1 → pLoop t n (fun b => wB t n b [111, 114]) A 16 f (bg t n i1) cc = pSeq t n (fun b => wB t n b [111, 114]) A 16 (bg t n i) → X 12 [some (.ref 0), some (.int v), some (.int (nI k))] [] sh_5 σ1 0 0 := by
    intro f
    induction f with
    | zero =>
      intro σ1 i1 cc k hf hk h1 h2 h3 hR
      have := bg_le (t := t) (n := n) i1
      omega
    | succ f ih =>
      intro σ1 i1 cc k hf hk h1 h2 h3 hR
      have hbl := bg_le (t := t) (n := n) i1
      refine hX _ _ _ _ _ _ _ ?_
      refine b_ge rfl (b := 400) rfl (by omega) (by omega) (fun h => by omega) (fun _ => ?_)
      refine c_tw_16 h1 (fun s1 σ2 k2 => ?_) (fun s1 => ?_)
      · refine ⟨fun h => absurd h (by decide +kernel), fun _ => ?_⟩
        have hlt : bg t n i1 < n := (wB_lt s1 (by decide)).1
        have hgt := nx_gt (t := t) hlt
        have hnl := nx_le (t := t) hbl
        have hgd := hG (nx t n (bg t n i1)) hnl nx_sk
        rw [pLoop, if_pos s1] at hR
        refine hA _ (i1 + 1) ls (c ++ cc) _ (RTw.of k2) (RLw.keep h2) (by show _ ≤ nx t n (bg t n i1); omega) (fun b' c' e σ3 i3 e3 a1 a2 => ?_) (fun e he σ3 i3 e3 a1 a2 => ?_)
        · have e : A (nx t n (bg t n i1)) = .inl (b', c') := e
          obtain ⟨g1, g2, g3, g4, g5⟩ := hgd.1 b' c' e
          rw [e] at hR
          have hln : (cat ls ++ (c ++ cc ++ c')).length < b' := by
            simp only [List.length_append] at h3 ⊢
            omega
          refine ⟨fun _ => ?_, fun h => absurd h (by decide +kernel)⟩
          refine hX _ _ _ _ _ _ _ ?_
          refine c_emit (o := 16) (v := nI 0) rfl (by omega) a2 (by omega) ?_
          intro σ4 h4
          have h5 := RLw.of (σ := σ3) h4
          rw [show c ++ cc ++ c' ++ [cw (nI 0) 16] = c ++ (cc ++ c' ++ [cw (nI 0) 16]) by simp only [List.append_assoc]] at h5
          have h9 := ih _ i3 (cc ++ c' ++ [cw (nI 0) 16]) (k + 1) (by rw [e3]; omega) (by rw [e3]; omega) (RTw.keep a1) h5 (by rw [e3]; simp only [List.length_append, List.length_singleton] at hln ⊢; omega) (by rw [e3]; exact hR)
          rw [← nI_1 k] at h9
          exact h9
        · have he : A (nx t n (bg t n i1)) = .inr e := he
          rw [he] at hR
          refine ⟨fun h => absurd rfl h, fun _ => ?_⟩
          exact ⟨Or.inl rfl, q0 e hR.symm σ3 i3 e3 a1 a2⟩
      · refine ⟨fun _ => ?_, fun h => absurd rfl h⟩
        rw [pLoop, if_neg s1] at hR
        refine hX _ _ _ _ _ _ _ ?_
        exact ⟨Or.inr rfl, q1 _ _ hR.symm _ i1 rfl (RTw.of h1) (RLw.keep h2)⟩
  have hgd := hG (bg t n i) (bg_le i) (bg_sk i)
  refine hX _ _ _ _ _ _ _ ?_
  refine hA σ i ls c _ hT hL hlen (fun b' c' e σ3 i3 e3 a1 a2 => ?_) (fun e he σ3 i3 e3 a1 a2 => ?_)
  · obtain ⟨g1, g2, g3, g4, g5⟩ := hgd.1 b' c' e
    refine ⟨fun _ => ?_, fun h => absurd h (by decide +kernel)⟩
    refine hX _ _ _ _ _ _ _ ?_
    exact loop 401 σ3 i3 c' 0 (by omega) (by omega) a1 a2 (by rw [e3]; simp only [List.length_append] at hlen ⊢; omega) (by unfold pSeq; rw [e, e3])
  · refine ⟨fun h => absurd rfl h, fun _ => ?_⟩
    exact ⟨Or.inl rfl, q0 e (by unfold pSeq; rw [he]) σ3 i3 e3 a1 a2⟩
end RPA
