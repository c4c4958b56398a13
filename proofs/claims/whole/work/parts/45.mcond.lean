/-! THE MODEL: sums, comparisons, atoms, and all that is made of them -/
theorem and01 {v w : Int32} (hv : b01 v) (hw : b01 w) : b01 (jn 15 v w) ∧ b01 (jn 16 v w) ∧ b01 (nI 1 - v) := by
  rcases hv with rfl | rfl <;> rcases hw with rfl | rfl <;> unfold b01 <;> decide +kernel
section MCD
variable {d n dp : Nat} {σ0 : mSg} {t : Nat → Int32}
theorem g_sum (hT : TX σ0 t n) : MP σ0 t n dp 0 2 122 (d + 6) anyV (pSum t n) := by
  intro σ p Q hp hP q1 q0
  have hn := hT.2.1
  refine ⟨rfl, fun X hX => ?_⟩
  have bad : ∀ e σ1 p1 v, pSum t n (sk t n p) = .inr e → e ≤ n → p1 ≤ n → PS σ0 σ1 p1 (nI e) dp → X 5 [some (.ref 0), some (.int v)] [] sh_10 σ1 0 0 := by
    intro e σ1 p1 v he hen hp1 h1
    refine hX _ _ _ _ _ _ _ ?_
    refine ⟨fun _ => ?_, fun h => absurd (h1.2.2.1.symm.trans h) (nI_ne1 (by omega))⟩
    refine hX _ _ _ _ _ _ _ ?_
    exact q0 e he σ1 p1 v hp1 h1 trivial
  have loop : ∀ f σ1 p1 c v, n < f + sk t n p1 → p1 ≤ n → PS σ0 σ1 p1 (-(nI 1)) dp → Wf (rho σ0) c v 2 → pLoop t n (fun b => sgB t n b 43) (pPart t n) 12 f (sk t n p1) c = pSum t n (sk t n p) → X 5 [some (.ref 0), some (.int v)] [] sh_10 σ1 0 0 := by
    intro f
    induction f with
    | zero =>
      intro σ1 p1 c v hf hp1 h1 hw hR
      have := sk_le (t := t) hp1
      omega
    | succ f ih =>
      intro σ1 p1 c v hf hp1 h1 hw hR
      have hsl := sk_le (t := t) hp1
      refine hX _ _ _ _ _ _ _ ?_
      refine ⟨fun h => absurd h1.2.2.1 h, fun _ => ?_⟩
      refine g_isSign (c := 43) rfl hT h1 (by omega) (fun s1 σ2 h2 => ?_) (fun s1 σ2 h2 => ?_)
      · refine ⟨fun h => absurd h (by decide +kernel), fun _ => ?_⟩
        have hlt := (sgB_iff.mp s1).1
        have enx : nx t n (sk t n p1) = sk t n (sk t n p1 + 1) := by unfold nx; rw [sgB_te s1 (by decide +kernel) (by decide +kernel)]
        have hgd := gd_part (t := t) (nx t n (sk t n p1)) (nx_le hsl) nx_sk
        rw [pLoop, if_pos s1] at hR
        refine g_part hT _ (sk t n p1 + 1) _ (by omega) (h2.at1 (by rw [h2.2.1]; exact nI_1 _)) (fun b' c' e σ3 p3 v3 a1 a2 a3 a4 _ => ?_) (fun e he σ3 p3 v3 a1 a2 _ => ?_)
        · rw [← enx] at e
          obtain ⟨g1, g2, g3, g4, g5⟩ := hgd.1 b' c' e
          have hgt := nx_gt (t := t) hlt
          rw [e] at hR
          refine ih σ3 p3 (c ++ c' ++ [cw (nI 0) 12]) (v + v3) (by rw [a2]; omega) a1 a3 (Wf.bin (o := 12) (by omega) (by omega) hw a4 (by omega)) ?_
          rw [a2]; exact hR
        · rw [← enx] at he
          have hen := hgd.2 e he
          rw [he] at hR
          exact bad e σ3 p3 _ hR.symm hen a1 a2
      · refine ⟨fun _ => ?_, fun h => absurd rfl h⟩
        rw [pLoop, if_neg s1] at hR
        refine hX _ _ _ _ _ _ _ ?_
        exact q1 _ _ hR.symm σ2 _ v hsl sk_idem h2 hw trivial
  refine hX _ _ _ _ _ _ _ ?_
  have hgd := gd_part (t := t) (sk t n p) (sk_le hp) sk_idem
  refine g_part hT σ p _ hp hP (fun b' c' e σ3 p3 v3 a1 a2 a3 a4 _ => ?_) (fun e he σ3 p3 v3 a1 a2 _ => ?_)
  · obtain ⟨g1, g2, g3, g4, g5⟩ := hgd.1 b' c' e
    refine loop 401 σ3 p3 c' v3 (by omega) a1 a3 (a4.wk (by omega)) ?_
    unfold pSum pSeq
    rw [e, a2]
  · exact bad e σ3 p3 v3 (by unfold pSum pSeq; rw [he]) (hgd.2 e he) a1 a2
theorem g_plain (hT : TX σ0 t n) (h15 : b01 (σ0 0 15)) : MP σ0 t n dp 0 3 123 (d + 7) b01 (pPlain t n) := by
  intro σ p Q hp hP q1 q0
  have hn := hT.2.1
  have hs := sk_le (t := t) hp
  generalize hb : sk t n p = b at *
  have hbs : sk t n b = b := by rw [← hb]; exact sk_idem
  refine ⟨rfl, fun X hX => ?_⟩
  refine hX _ _ _ _ _ _ _ ?_
  have wn : ∀ w : List Nat, 0 < w.length → wB t n b w = true → b + w.length ≤ n ∧ sk t n (b + w.length) = nx t n b := by
    intro w hw h
    have e := wB_te h hw
    have e2 := te_le (t := t) hs
    exact ⟨by omega, by unfold nx; rw [e]⟩
  refine g_has_64 hT hP hp (fun w1 σ1 h1 => ?_) (fun w1 σ1 h1 => ?_)
  · rw [hb] at w1 h1
    refine ⟨fun h => absurd h (by decide +kernel), fun _ => ?_⟩
    refine ⟨vp_in_nI (n := 11) (by omega) (by omega), ?_⟩
    obtain ⟨z1, z2⟩ := wn _ (by decide) w1
    have key : ∀ v, v = rho σ0 8 → b01 v → Q (.inl (some (.int v))) sh_10 σ1 := by
      intro v hv hv2
      refine q1 _ _ (by unfold pPlain; rw [if_pos w1]) σ1 _ v z1 z2 h1 ?_ hv2
      rw [hv]
      exact (Wf.fact (by omega) (by omega)).wk (by omega)
    have e11 : rho σ0 8 = if σ1 1 11 = nI 1 then nI 1 else nI 0 := by rw [h1.1 1 11 (by omega)]; rfl
    refine ⟨fun h => ?_, fun h => ?_⟩
    · refine hX _ _ _ _ _ _ _ ?_
      refine hX _ _ _ _ _ _ _ ?_
      exact ⟨Or.inl rfl, key (nI 0) (by rw [e11, if_neg (show ¬ σ1 1 11 = nI 1 from h)]) b01_0⟩
    · refine hX _ _ _ _ _ _ _ ?_
      exact ⟨Or.inr rfl, key (nI 1) (by rw [e11, if_pos (show σ1 1 11 = nI 1 from h)]) b01_1⟩
  rw [hb] at w1 h1
  refine ⟨fun _ => ?_, fun h => absurd rfl h⟩
  refine hX _ _ _ _ _ _ _ ?_
  refine g_has_65 hT h1 hs (fun w2 σ2 h2 => ?_) (fun w2 σ2 h2 => ?_)
  · rw [hbs] at w2 h2
    refine ⟨fun h => absurd h (by decide +kernel), fun _ => ?_⟩
    obtain ⟨z1, z2⟩ := wn _ (by decide) w2
    have e15 : σ2 0 15 = rho σ0 9 := h2.1 0 15 (by omega)
    have hb15 : b01 (σ2 0 15) := by rw [h2.1 0 15 (by omega)]; exact h15
    refine ⟨b01_z hb15, q1 _ _ (by unfold pPlain; rw [if_neg w1, if_pos w2]) σ2 _ _ z1 z2 h2 ?_ hb15⟩
    show Wf _ _ (σ2 0 15) _
    rw [e15]
    exact (Wf.fact (by omega) (by omega)).wk (by omega)
  rw [hbs] at w2 h2
  refine ⟨fun _ => ?_, fun h => absurd rfl h⟩
  refine hX _ _ _ _ _ _ _ ?_
  refine g_has_66 hT h2 hs (fun w3 σ3 h3 => ?_) (fun w3 σ3 h3 => ?_)
  · rw [hbs] at w3 h3
    refine ⟨fun h => absurd h (by decide +kernel), fun _ => ?_⟩
    refine ⟨vp_in_nI (n := 3) (by omega) (by omega), ?_⟩
    obtain ⟨z1, z2⟩ := wn _ (by decide) w3
    have key : ∀ v, v = rho σ0 10 → b01 v → Q (.inl (some (.int v))) sh_10 σ3 := by
      intro v hv hv2
      refine q1 _ _ (by unfold pPlain; rw [if_neg w1, if_neg w2, if_pos w3]) σ3 _ v z1 z2 h3 ?_ hv2
      rw [hv]
      exact (Wf.fact (by omega) (by omega)).wk (by omega)
    have e11 : rho σ0 10 = if σ3 6 3 < nI 20 then nI 0 else nI 1 := by rw [h3.1 6 3 (by omega)]; rfl
    refine ⟨fun h => ?_, fun h => ?_⟩
    · refine hX _ _ _ _ _ _ _ ?_
      refine hX _ _ _ _ _ _ _ ?_
      exact ⟨Or.inl rfl, key (nI 0) (by rw [e11, if_pos (show σ3 6 3 < nI 20 from h)]) b01_0⟩
    · refine hX _ _ _ _ _ _ _ ?_
      exact ⟨Or.inr rfl, key (nI 1) (by rw [e11, if_neg (show ¬ σ3 6 3 < nI 20 from h)]) b01_1⟩
  rw [hbs] at w3 h3
  refine ⟨fun _ => ?_, fun h => absurd rfl h⟩
  refine hX _ _ _ _ _ _ _ ?_
  have hgd := gd_sum (t := t) b hs hbs
  have e0 : pPlain t n b = (match pSum t n b with
    | .inl (b', c) => if sgB t n b' 60 = true then pCmp t n 13 b' c else if sgB t n b' 62 = true then pCmp t n 14 b' c else .inr b'
    | .inr e => .inr e) := by unfold pPlain; rw [if_neg w1, if_neg w2, if_neg w3]; rfl
  refine g_sum hT σ3 b _ hs h3 (fun b1 c1 e σ4 p4 v4 a1 a2 a3 a4 _ => ?_) (fun e he σ4 p4 v4 a1 a2 _ => ?_)
  · rw [hbs] at e
    rw [e] at e0
    obtain ⟨g1, g2, g3, g4, g5⟩ := hgd.1 b1 c1 e
    refine ⟨fun _ => ?_, fun h => absurd a3.2.2.1 h⟩
    refine hX _ _ _ _ _ _ _ ?_
    have cmp : ∀ (o z : Nat) (u : Int32) σ5, (o = 13 ∧ z = 60 ∧ u = nI 1 ∨ o = 14 ∧ z = 62 ∧ u = nI 0) → sgB t n b1 z = true → pPlain t n b = pCmp t n o b1 c1 → PS σ0 σ5 b1 (-(nI 1)) dp → X 111 [some (.ref 0), some (.int v4), some (.int u), none] [] sh_10 σ5 0 0 := by
      intro o z u σ5 ho hz e2 h5
      have hlt := (sgB_iff.mp hz).1
      have enx : nx t n b1 = sk t n (b1 + 1) := by
        unfold nx
        rcases ho with ⟨-, rfl, -⟩ | ⟨-, rfl, -⟩ <;> rw [sgB_te hz (by decide +kernel) (by decide +kernel)]
      have hgd2 := gd_sum (t := t) (nx t n b1) (nx_le g2) nx_sk
      refine hX _ _ _ _ _ _ _ ?_
      refine g_sum hT _ (b1 + 1) _ (by omega) (h5.at1 (by rw [h5.2.1]; exact nI_1 _)) (fun b2 c2 e3 σ6 p6 v6 d1 d2 d3 d4 _ => ?_) (fun e3 he σ6 p6 v6 d1 d2 _ => ?_)
      · rw [← enx] at e3
        have key : ∀ v, v = jn o v4 v6 → b01 v → Q (.inl (some (.int v))) sh_10 σ6 := by
          intro v hv hv2
          refine q1 b2 (c1 ++ c2 ++ [cw (nI 0) o]) (by rw [e2]; unfold pCmp; rw [e3]) σ6 p6 v d1 d2 d3 ?_ hv2
          rw [hv]
          exact Wf.bin (by omega) (by omega) a4 d4 (by omega)
        rcases ho with ⟨rfl, -, rfl⟩ | ⟨rfl, -, rfl⟩
        · refine ⟨fun h => absurd h (by decide +kernel), fun _ => ?_⟩
          refine ⟨fun h => ?_, fun h => ?_⟩
          · have h : v6 ≤ v4 := h
            refine hX _ _ _ _ _ _ _ ?_
            refine hX _ _ _ _ _ _ _ ?_
            exact ⟨Or.inl rfl, key (nI 0) (if_neg (Int32.not_lt.mpr h)).symm b01_0⟩
          · have h : ¬ v6 ≤ v4 := h
            refine hX _ _ _ _ _ _ _ ?_
            exact ⟨Or.inr rfl, key (nI 1) (if_pos (Int32.not_le.mp h)).symm b01_1⟩
        · refine ⟨fun _ => ?_, fun h => absurd rfl h⟩
          refine hX _ _ _ _ _ _ _ ?_
          refine ⟨fun h => ?_, fun h => ?_⟩
          · have h : v4 ≤ v6 := h
            refine hX _ _ _ _ _ _ _ ?_
            refine hX _ _ _ _ _ _ _ ?_
            exact ⟨Or.inl rfl, key (nI 0) (if_neg (Int32.not_lt.mpr h)).symm b01_0⟩
          · have h : ¬ v4 ≤ v6 := h
            refine hX _ _ _ _ _ _ _ ?_
            exact ⟨Or.inr rfl, key (nI 1) (if_pos (Int32.not_le.mp h)).symm b01_1⟩
      · rw [← enx] at he
        have key : ∀ v, b01 v → Q (.inl (some (.int v))) sh_10 σ6 := by
          intro v hv2
          exact q0 e3 (by rw [e2]; unfold pCmp; rw [he]) σ6 p6 v d1 d2 hv2
        rcases ho with ⟨rfl, -, rfl⟩ | ⟨rfl, -, rfl⟩
        · refine ⟨fun h => absurd h (by decide +kernel), fun _ => ?_⟩
          refine ⟨fun h => ?_, fun h => ?_⟩
          · refine hX _ _ _ _ _ _ _ ?_
            refine hX _ _ _ _ _ _ _ ?_
            exact ⟨Or.inl rfl, key (nI 0) b01_0⟩
          · refine hX _ _ _ _ _ _ _ ?_
            exact ⟨Or.inr rfl, key (nI 1) b01_1⟩
        · refine ⟨fun _ => ?_, fun h => absurd rfl h⟩
          refine hX _ _ _ _ _ _ _ ?_
          refine ⟨fun h => ?_, fun h => ?_⟩
          · refine hX _ _ _ _ _ _ _ ?_
            refine hX _ _ _ _ _ _ _ ?_
            exact ⟨Or.inl rfl, key (nI 0) b01_0⟩
          · refine hX _ _ _ _ _ _ _ ?_
            exact ⟨Or.inr rfl, key (nI 1) b01_1⟩
    refine g_isSign (c := 60) rfl hT a3 (by omega) (fun s1 σ5 h5 => ?_) (fun s1 σ5 h5 => ?_)
    · rw [a2] at s1 h5
      refine ⟨fun _ => ?_, fun h => absurd h (by decide +kernel)⟩
      exact cmp 13 60 _ σ5 (Or.inl ⟨rfl, rfl, rfl⟩) s1 (by rw [e0]; exact if_pos s1) h5
    · rw [a2] at s1 h5
      refine ⟨fun h => absurd rfl h, fun _ => ?_⟩
      refine g_isSign (c := 62) rfl hT h5 (by omega) (fun s2 σ6 h6 => ?_) (fun s2 σ6 h6 => ?_)
      · rw [g3] at s2 h6
        refine ⟨fun _ => ?_, fun h => absurd h (by decide +kernel)⟩
        exact cmp 14 62 _ σ6 (Or.inr ⟨rfl, rfl, rfl⟩) s2 (by rw [e0]; exact (if_neg s1).trans (if_pos s2)) h6
      · rw [g3] at s2 h6
        refine ⟨fun h => absurd rfl h, fun _ => ?_⟩
        refine g_wrong h6.2.1 h6 ?_
        intro σ7 h7
        exact ⟨Or.inl rfl, q0 b1 (by rw [e0]; exact (if_neg s1).trans (if_neg s2)) σ7 b1 _ g2 h7 b01_0⟩
  · rw [hbs] at he
    have hen := hgd.2 e he
    rw [he] at e0
    refine ⟨fun h => absurd (a2.2.2.1.symm.trans h) (nI_ne1 (by omega)), fun _ => ?_⟩
    exact ⟨Or.inl rfl, q0 e e0 σ4 p4 _ a1 a2 b01_0⟩
end MCD
