/-! THE CLASS: a line of the law -/
def RIl (s : List lLn) (b : Nat) (σ : mSg) : Prop := RLw σ s [] ∧ (cat s).length ≤ b
theorem RIl_keep : ∀ (s : List lLn) (b b' : Nat) (σ σ2 : mSg), b ≤ b' → RIl s b σ → RIl s b' (mback [(1, 4)] σ σ2) := fun _ _ _ _ _ h h2 => ⟨h2.1.keep, Nat.le_trans h2.2 h⟩
section CLL
variable {t : Nat → Int32} {n d : Nat}
theorem c_readsLawLine : ClP t n (pLine t n) RIl lOks List.length 12 282 (d + 25) := by
  intro σ i s Q hT hI hcn hR q1 q0
  obtain ⟨hL, hlen⟩ := hR
  have hn := hT.1
  have hbl := bg_le (t := t) (n := n) i
  have hnl := nx_le (t := t) hbl
  have hnl2 := nx_le (t := t) hnl
  have hS := c_readsAny (c_readsAll (c_atoms (t := t) (n := n) 6 d 0 rfl) (gd_atom 6)) (gd_every (gd_atom 6))
  refine ⟨rfl, fun X hX => ?_⟩
  have fin : ∀ (k : Nat) (a : Int32) (c : List Int32) (u : Int32) σ1 i1, k ≤ 2 → u = nI (cat s).length → pLine t n (bg t n i) s = .inl (bg t n i1, s ++ [(k, a, c)]) → (cat s ++ c).length ≤ bg t n i1 → RTw σ1 t n i1 → RLw σ1 s c → X 107 [some (.ref 0), some (.int (nI k)), some (.int a), some (.int u)] [] sh_5 σ1 0 0 := by
    intro k a c u σ1 i1 hk hu e hl h1 h2
    have hb1 := bg_le (t := t) (n := n) i1
    refine hX _ _ _ _ _ _ _ ?_
    refine c_addLine (kn := k) rfl hu h2 hcn (by omega) ?_
    intro σ2 h3
    exact ⟨Or.inr rfl, q1 _ _ e _ i1 rfl h1.keep ⟨RLw.of h3, by rw [cat_snoc]; exact hl⟩⟩
  have kind : ∀ (k : Nat) (w : List Nat) σ1, k ≤ 2 → 0 < w.length → wB t n (bg t n i) w = true → pW t n (bg t n i) [([109, 111, 114, 101], 0), ([108, 101, 115, 115], 1), ([116, 111, 108, 108], 2)] = some k → RTw σ1 t n (i + 1) → RLw σ1 s [] → X 49 [some (.ref 0), none, none, none] [.int (nI k)] sh_5 σ1 0 0 := by
    intro k w σ1 hk hw0 hw ek h1 h2
    have hgt := nx_gt (t := t) (wB_lt hw hw0).1
    refine hX _ _ _ _ _ _ _ ?_
    refine ⟨fun h => absurd h (oN_ne (by omega)), fun _ => ?_⟩
    refine c_takeNumber (lo := nI 0) (hi := nI 99) h1 (fun h3 σ2 k2 => ?_) (fun h3 => ?_)
    · have h3 : nB t n (nx t n (bg t n i)) (nI 0) (nI 99) = true := h3
      obtain ⟨j, -, hj, ej⟩ := nB_val h3 (by omega) (by omega)
      have ej : nV t n (bg t n (i + 1)) = nI j := ej
      have hgt2 := nx_gt (t := t) (nB_lt h3).1
      refine hX _ _ _ _ _ _ _ ?_
      refine ⟨fun _ => ?_, fun h => absurd (ej.symm.trans h) (oN_ne (by omega))⟩
      refine hX _ _ _ _ _ _ _ ?_
      have eu : σ1 14 1 = nI (cat s).length := by
        have := h2.2.2.1
        rw [List.append_nil] at this
        exact this
      refine c_tw_3 (RTw.of (σ := σ1) k2) (fun s3 σ3 k3 => ?_) (fun s3 => ?_)
      · have s3 : wB t n (nx t n (nx t n (bg t n i))) [105, 102] = true := s3
        have hgt3 := nx_gt (t := t) (wB_lt s3 (by decide)).1
        have hgd := gd_some (gd_atom (t := t) (n := n) 6) (nx t n (nx t n (nx t n (bg t n i)))) (nx_le hnl2) nx_sk
        refine ⟨fun h => absurd h (by decide +kernel), fun _ => ?_⟩
        refine hS _ (i + 3) s [] _ (RTw.of k3) (RLw.keep (RLw.keep h2)) (by rw [List.append_nil]; show _ ≤ nx t n (nx t n (nx t n (bg t n i))); omega) (fun b' c' e σ4 i4 e4 a1 a2 => ?_) (fun e he σ4 i4 e4 a1 a2 => ?_)
        · have e : pSome t n (pAtom t n 6) (nx t n (nx t n (nx t n (bg t n i)))) = .inl (b', c') := e
          obtain ⟨g1, g2, g3, g4, g5⟩ := hgd.1 b' c' e
          refine ⟨fun _ => ?_, fun h => absurd h (by decide +kernel)⟩
          refine fin k _ c' _ σ4 i4 hk eu ?_ ?_ a1 a2
          · unfold pLine; rw [ek]
            show (if _ then _ else _) = _
            rw [if_pos h3, if_pos s3, e, e4]
            rfl
          · rw [e4]
            simp only [List.length_append]
            omega
        · have he : pSome t n (pAtom t n 6) (nx t n (nx t n (nx t n (bg t n i)))) = .inr e := he
          refine ⟨fun h => absurd rfl h, fun _ => ?_⟩
          refine ⟨Or.inl rfl, q0 e ?_ σ4 i4 e4 a1⟩
          unfold pLine; rw [ek]
          show (if _ then _ else _) = _
          rw [if_pos h3, if_pos s3, he]
      · have s3 : ¬ wB t n (nx t n (nx t n (bg t n i))) [105, 102] = true := s3
        refine ⟨fun _ => ?_, fun h => absurd rfl h⟩
        refine fin k _ [] _ _ (i + 2) hk eu ?_ ?_ (RTw.of (σ := _) (RTw.of (σ := σ1) k2)) (RLw.keep (RLw.keep h2))
        · unfold pLine; rw [ek]
          show (if _ then _ else _) = _
          rw [if_pos h3, if_neg s3]
          rfl
        · rw [List.append_nil]
          show _ ≤ nx t n (nx t n (bg t n i))
          omega
    · have h3 : ¬ nB t n (nx t n (bg t n i)) (nI 0) (nI 99) = true := h3
      refine hX _ _ _ _ _ _ _ ?_
      refine ⟨fun h => absurd rfl h, fun _ => ?_⟩
      refine ⟨Or.inl rfl, q0 (nx t n (bg t n i)) ?_ _ (i + 1) rfl (RTw.of (σ := σ1) h1)⟩
      unfold pLine; rw [ek]
      show (if _ then _ else _) = _
      rw [if_neg h3]
  have s32 : ¬ wB t n (bg t n i) [109, 111, 114, 101] = true → ¬ wB t n (bg t n i) [108, 101, 115, 115] = true → ∀ σ1, RTw σ1 t n i → RLw σ1 s [] → X 32 [some (.ref 0), none, none, none] [] sh_5 σ1 0 0 := by
    intro w1 w2 σ1 h1 h2
    refine hX _ _ _ _ _ _ _ ?_
    refine c_tw_2 h1 (fun z σ2 k2 => ?_) (fun z => ?_)
    · refine ⟨fun h => absurd h (by decide +kernel), fun _ => ?_⟩
      exact kind 2 _ _ (by omega) (by decide) z (by rw [pW, if_neg w1, pW, if_neg w2, pW, if_pos z]) (RTw.of k2) h2.keep
    · refine ⟨fun _ => ?_, fun h => absurd rfl h⟩
      refine hX _ _ _ _ _ _ _ ?_
      refine hX _ _ _ _ _ _ _ ?_
      refine ⟨fun _ => ?_, fun h => absurd rfl h⟩
      refine hX _ _ _ _ _ _ _ ?_
      refine hX _ _ _ _ _ _ _ ?_
      refine ⟨fun h => absurd rfl h, fun _ => ?_⟩
      refine ⟨Or.inl rfl, q0 (bg t n i) ?_ _ i rfl (RTw.of (σ := σ1) h1)⟩
      unfold pLine
      rw [pW, if_neg w1, pW, if_neg w2, pW, if_neg z, pW]
  have s16 : ¬ wB t n (bg t n i) [109, 111, 114, 101] = true → ∀ σ1, RTw σ1 t n i → RLw σ1 s [] → X 16 [some (.ref 0), none, none, none] [] sh_5 σ1 0 0 := by
    intro w1 σ1 h1 h2
    refine hX _ _ _ _ _ _ _ ?_
    refine c_tw_1 h1 (fun z σ2 k2 => ?_) (fun z => ?_)
    · refine ⟨fun h => absurd h (by decide +kernel), fun _ => ?_⟩
      exact kind 1 _ _ (by omega) (by decide) z (by rw [pW, if_neg w1, pW, if_pos z]) (RTw.of k2) h2.keep
    · refine ⟨fun _ => ?_, fun h => absurd rfl h⟩
      exact s32 w1 z _ (RTw.of h1) h2.keep
  refine hX _ _ _ _ _ _ _ ?_
  refine c_tw_0 hT (fun z σ2 k2 => ?_) (fun z => ?_)
  · refine ⟨fun h => absurd h (by decide +kernel), fun _ => ?_⟩
    exact kind 0 _ _ (by omega) (by decide) z (by rw [pW, if_pos z]) (RTw.of k2) hL.keep
  · refine ⟨fun _ => ?_, fun h => absurd rfl h⟩
    exact s16 z _ (RTw.of hT) hL.keep
end CLL
