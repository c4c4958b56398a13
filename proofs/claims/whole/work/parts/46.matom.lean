/-! THE MODEL: all and any, atoms -/
section MCE
variable {d n dp : Nat} {σ0 : mSg} {t : Nat → Int32}
theorem g_every {A : Nat → pR} {D k dA : Nat} (hA : MP σ0 t n dp D k 124 (dA + 3) b01 A) (hG : Good t n k A) (hT : TX σ0 t n) : MP σ0 t n dp D (k + 1) 125 (dA + 4) b01 (pEvery t n A) := by
  intro σ p Q hp hP q1 q0
  have hn := hT.2.1
  refine ⟨rfl, fun X hX => ?_⟩
  have bad : ∀ e σ1 p1 v, pEvery t n A (sk t n p) = .inr e → e ≤ n → p1 ≤ n + D → PS σ0 σ1 p1 (nI e) dp → b01 v → X 5 [some (.ref 0), some (.int v), none] [] sh_10 σ1 0 0 := by
    intro e σ1 p1 v he hen hp1 h1 hv
    refine hX _ _ _ _ _ _ _ ?_
    refine ⟨fun _ => ?_, fun h => absurd (h1.2.2.1.symm.trans h) (nI_ne1 (by omega))⟩
    refine hX _ _ _ _ _ _ _ ?_
    exact ⟨b01_z hv, q0 e he σ1 p1 v hp1 h1 hv⟩
  have loop : ∀ f σ1 p1 c v, n < f + sk t n p1 → p1 ≤ n → PS σ0 σ1 p1 (-(nI 1)) dp → Wf (rho σ0) c v (k + 1) → b01 v → pLoop t n (fun b => wB t n b [97, 110, 100]) (A) 15 f (sk t n p1) c = pEvery t n A (sk t n p) → X 5 [some (.ref 0), some (.int v), none] [] sh_10 σ1 0 0 := by
    intro f
    induction f with
    | zero =>
      intro σ1 p1 c v hf hp1 h1 hw hv hR
      have := sk_le (t := t) hp1
      omega
    | succ f ih =>
      intro σ1 p1 c v hf hp1 h1 hw hv hR
      have hsl := sk_le (t := t) hp1
      refine hX _ _ _ _ _ _ _ ?_
      refine ⟨fun h => absurd h1.2.2.1 h, fun _ => ?_⟩
      refine g_has_74 hT h1 hp1 (fun s1 σ2 h2 => ?_) (fun s1 σ2 h2 => ?_)
      · refine ⟨fun h => absurd h (by decide +kernel), fun _ => ?_⟩
        have hlt := (wB_lt s1 (by decide)).1
        have ete : te t n (sk t n p1) = sk t n p1 + 3 := wB_te s1 (by decide)
        have enx : nx t n (sk t n p1) = sk t n (sk t n p1 + 3) := by unfold nx; rw [ete]
        have etl := te_le (t := t) hsl
        have hgd := hG (nx t n (sk t n p1)) (nx_le hsl) nx_sk
        rw [pLoop, if_pos s1] at hR
        refine hA _ (sk t n p1 + 3) _ (by omega) h2 (fun b' c' e σ3 p3 v3 a1 a2 a3 a4 a5 => ?_) (fun e he σ3 p3 v3 a1 a2 a5 => ?_)
        · rw [← enx] at e
          obtain ⟨g1, g2, g3, g4, g5⟩ := hgd.1 b' c' e
          have hgt := nx_gt (t := t) hlt
          rw [e] at hR
          have K : ∀ u, u = jn 15 v v3 → b01 u → X 5 [some (.ref 0), some (.int u), none] [] sh_10 σ3 0 0 := by
            intro u hu hu2
            refine ih σ3 p3 (c ++ c' ++ [cw (nI 0) 15]) u (by rw [a2]; omega) a1 a3 (by rw [hu]; exact Wf.bin (o := 15) (by omega) (by omega) hw a4 (by omega)) hu2 ?_
            rw [a2]; exact hR
          rcases hv with rfl | rfl
          · refine ⟨fun _ => ?_, fun h => absurd rfl h⟩
            refine hX _ _ _ _ _ _ _ ?_
            refine hX _ _ _ _ _ _ _ ?_
            exact K (nI 0) (by rcases a5 with rfl | rfl <;> decide +kernel) b01_0
          · refine ⟨fun h => absurd h (by decide +kernel), fun _ => ?_⟩
            rcases a5 with rfl | rfl
            · refine ⟨fun _ => ?_, fun h => absurd rfl h⟩
              refine hX _ _ _ _ _ _ _ ?_
              refine hX _ _ _ _ _ _ _ ?_
              exact K (nI 0) (by decide +kernel) b01_0
            · refine ⟨fun h => absurd h (by decide +kernel), fun _ => ?_⟩
              refine hX _ _ _ _ _ _ _ ?_
              exact K (nI 1) (by decide +kernel) b01_1
        · rw [← enx] at he
          have hen := hgd.2 e he
          rw [he] at hR
          have K : ∀ u, u = jn 15 v v3 → b01 u → X 5 [some (.ref 0), some (.int u), none] [] sh_10 σ3 0 0 := fun u _ hu2 => bad e σ3 p3 u hR.symm hen a1 a2 hu2
          rcases hv with rfl | rfl
          · refine ⟨fun _ => ?_, fun h => absurd rfl h⟩
            refine hX _ _ _ _ _ _ _ ?_
            refine hX _ _ _ _ _ _ _ ?_
            exact K (nI 0) (by rcases a5 with rfl | rfl <;> decide +kernel) b01_0
          · refine ⟨fun h => absurd h (by decide +kernel), fun _ => ?_⟩
            rcases a5 with rfl | rfl
            · refine ⟨fun _ => ?_, fun h => absurd rfl h⟩
              refine hX _ _ _ _ _ _ _ ?_
              refine hX _ _ _ _ _ _ _ ?_
              exact K (nI 0) (by decide +kernel) b01_0
            · refine ⟨fun h => absurd h (by decide +kernel), fun _ => ?_⟩
              refine hX _ _ _ _ _ _ _ ?_
              exact K (nI 1) (by decide +kernel) b01_1
      · refine ⟨fun _ => ?_, fun h => absurd rfl h⟩
        rw [pLoop, if_neg s1] at hR
        refine hX _ _ _ _ _ _ _ ?_
        exact ⟨b01_z hv, q1 _ _ hR.symm σ2 _ v hsl sk_idem h2 hw hv⟩
  refine hX _ _ _ _ _ _ _ ?_
  have hgd := hG (sk t n p) (sk_le hp) sk_idem
  refine hA σ p _ hp hP (fun b' c' e σ3 p3 v3 a1 a2 a3 a4 a5 => ?_) (fun e he σ3 p3 v3 a1 a2 a5 => ?_)
  · obtain ⟨g1, g2, g3, g4, g5⟩ := hgd.1 b' c' e
    refine loop 401 σ3 p3 c' v3 (by omega) a1 a3 (a4.wk (by omega)) a5 ?_
    unfold pEvery pSeq
    rw [e, a2]
  · exact bad e σ3 p3 v3 (by unfold pEvery pSeq; rw [he]) (hgd.2 e he) a1 a2 a5
theorem g_some {A A0 : Nat → pR} {D k dA : Nat} (hA : MP σ0 t n dp D k 125 (dA + 3) b01 A) (eA : A = pEvery t n A0) (hG : Good t n k A) (hT : TX σ0 t n) : MP σ0 t n dp D (k + 1) 126 (dA + 4) b01 (pSome t n A0) := by
  intro σ p Q hp hP q1 q0
  have hn := hT.2.1
  subst eA
  refine ⟨rfl, fun X hX => ?_⟩
  have bad : ∀ e σ1 p1 v, pSome t n A0 (sk t n p) = .inr e → e ≤ n → p1 ≤ n + D → PS σ0 σ1 p1 (nI e) dp → b01 v → X 5 [some (.ref 0), some (.int v), none] [] sh_10 σ1 0 0 := by
    intro e σ1 p1 v he hen hp1 h1 hv
    refine hX _ _ _ _ _ _ _ ?_
    refine ⟨fun _ => ?_, fun h => absurd (h1.2.2.1.symm.trans h) (nI_ne1 (by omega))⟩
    refine hX _ _ _ _ _ _ _ ?_
    exact ⟨b01_z hv, q0 e he σ1 p1 v hp1 h1 hv⟩
  have loop : ∀ f σ1 p1 c v, n < f + sk t n p1 → p1 ≤ n → PS σ0 σ1 p1 (-(nI 1)) dp → Wf (rho σ0) c v (k + 1) → b01 v → pLoop t n (fun b => wB t n b [111, 114]) (pEvery t n A0) 16 f (sk t n p1) c = pSome t n A0 (sk t n p) → X 5 [some (.ref 0), some (.int v), none] [] sh_10 σ1 0 0 := by
    intro f
    induction f with
    | zero =>
      intro σ1 p1 c v hf hp1 h1 hw hv hR
      have := sk_le (t := t) hp1
      omega
    | succ f ih =>
      intro σ1 p1 c v hf hp1 h1 hw hv hR
      have hsl := sk_le (t := t) hp1
      refine hX _ _ _ _ _ _ _ ?_
      refine ⟨fun h => absurd h1.2.2.1 h, fun _ => ?_⟩
      refine g_has_75 hT h1 hp1 (fun s1 σ2 h2 => ?_) (fun s1 σ2 h2 => ?_)
      · refine ⟨fun h => absurd h (by decide +kernel), fun _ => ?_⟩
        have hlt := (wB_lt s1 (by decide)).1
        have ete : te t n (sk t n p1) = sk t n p1 + 2 := wB_te s1 (by decide)
        have enx : nx t n (sk t n p1) = sk t n (sk t n p1 + 2) := by unfold nx; rw [ete]
        have etl := te_le (t := t) hsl
        have hgd := hG (nx t n (sk t n p1)) (nx_le hsl) nx_sk
        rw [pLoop, if_pos s1] at hR
        refine hA _ (sk t n p1 + 2) _ (by omega) h2 (fun b' c' e σ3 p3 v3 a1 a2 a3 a4 a5 => ?_) (fun e he σ3 p3 v3 a1 a2 a5 => ?_)
        · rw [← enx] at e
          obtain ⟨g1, g2, g3, g4, g5⟩ := hgd.1 b' c' e
          have hgt := nx_gt (t := t) hlt
          rw [e] at hR
          have K : ∀ u, u = jn 16 v v3 → b01 u → X 5 [some (.ref 0), some (.int u), none] [] sh_10 σ3 0 0 := by
            intro u hu hu2
            refine ih σ3 p3 (c ++ c' ++ [cw (nI 0) 16]) u (by rw [a2]; omega) a1 a3 (by rw [hu]; exact Wf.bin (o := 16) (by omega) (by omega) hw a4 (by omega)) hu2 ?_
            rw [a2]; exact hR
          rcases hv with rfl | rfl
          · refine ⟨fun h => absurd rfl h, fun _ => ?_⟩
            rcases a5 with rfl | rfl
            · refine ⟨fun _ => ?_, fun h => absurd rfl h⟩
              refine hX _ _ _ _ _ _ _ ?_
              refine hX _ _ _ _ _ _ _ ?_
              exact K (nI 0) (by decide +kernel) b01_0
            · refine ⟨fun h => absurd h (by decide +kernel), fun _ => ?_⟩
              refine hX _ _ _ _ _ _ _ ?_
              refine hX _ _ _ _ _ _ _ ?_
              exact K (nI 1) (by decide +kernel) b01_1
          · refine ⟨fun _ => ?_, fun h => absurd h (by decide +kernel)⟩
            refine hX _ _ _ _ _ _ _ ?_
            refine hX _ _ _ _ _ _ _ ?_
            exact K (nI 1) (by rcases a5 with rfl | rfl <;> decide +kernel) b01_1
        · rw [← enx] at he
          have hen := hgd.2 e he
          rw [he] at hR
          have K : ∀ u, u = jn 16 v v3 → b01 u → X 5 [some (.ref 0), some (.int u), none] [] sh_10 σ3 0 0 := fun u _ hu2 => bad e σ3 p3 u hR.symm hen a1 a2 hu2
          rcases hv with rfl | rfl
          · refine ⟨fun h => absurd rfl h, fun _ => ?_⟩
            rcases a5 with rfl | rfl
            · refine ⟨fun _ => ?_, fun h => absurd rfl h⟩
              refine hX _ _ _ _ _ _ _ ?_
              refine hX _ _ _ _ _ _ _ ?_
              exact K (nI 0) (by decide +kernel) b01_0
            · refine ⟨fun h => absurd h (by decide +kernel), fun _ => ?_⟩
              refine hX _ _ _ _ _ _ _ ?_
              refine hX _ _ _ _ _ _ _ ?_
              exact K (nI 1) (by decide +kernel) b01_1
          · refine ⟨fun _ => ?_, fun h => absurd h (by decide +kernel)⟩
            refine hX _ _ _ _ _ _ _ ?_
            refine hX _ _ _ _ _ _ _ ?_
            exact K (nI 1) (by rcases a5 with rfl | rfl <;> decide +kernel) b01_1
      · refine ⟨fun _ => ?_, fun h => absurd rfl h⟩
        rw [pLoop, if_neg s1] at hR
        refine hX _ _ _ _ _ _ _ ?_
        exact ⟨b01_z hv, q1 _ _ hR.symm σ2 _ v hsl sk_idem h2 hw hv⟩
  refine hX _ _ _ _ _ _ _ ?_
  have hgd := hG (sk t n p) (sk_le hp) sk_idem
  refine hA σ p _ hp hP (fun b' c' e σ3 p3 v3 a1 a2 a3 a4 a5 => ?_) (fun e he σ3 p3 v3 a1 a2 a5 => ?_)
  · obtain ⟨g1, g2, g3, g4, g5⟩ := hgd.1 b' c' e
    refine loop 401 σ3 p3 c' v3 (by omega) a1 a3 (a4.wk (by omega)) a5 ?_
    unfold pSome pSeq
    rw [e, a2]
  · exact bad e σ3 p3 v3 (by unfold pSome pSeq; rw [he]) (hgd.2 e he) a1 a2 a5
theorem g_atom (hT : TX σ0 t n) (h15 : b01 (σ0 0 15)) : ∀ (D d dp : Nat), dp + D = 6 → MP σ0 t n dp D (3 + 2 * D) 124 (d + 3 * D + 8) b01 (pAtom t n D) := by
  have hn := hT.2.1
  intro D
  induction D with
  | zero =>
    intro d dp hdp σ p Q hp hP q1 q0
    have hs := sk_le (t := t) hp
    generalize hb : sk t n p = b at *
    have hbs : sk t n b = b := by rw [← hb]; exact sk_idem
    refine ⟨rfl, fun X hX => ?_⟩
    have deep : ∀ u σ1 p1, p1 ≤ n → pAtom t n 0 b = .inr b → PS σ0 σ1 p1 (-(nI 1)) dp → X 40 [some (.ref 0), some (.int (nI b)), some (.int u), none] [] sh_10 σ1 0 0 := by
      intro u σ1 p1 hp1 he h1
      refine hX _ _ _ _ _ _ _ ?_
      refine b_ne h1.2.2.2 (b := 6) rfl (by omega) (by omega) (fun h => by omega) (fun _ => ?_)
      refine g_wrong rfl h1 ?_
      intro σ2 h2
      exact ⟨Or.inl rfl, q0 b he σ2 p1 _ (by omega) h2 b01_0⟩
    refine hX _ _ _ _ _ _ _ ?_
    refine ⟨fun _ => ?_, fun h => absurd hP.2.2.1 h⟩
    refine hX _ _ _ _ _ _ _ ?_
    refine g_here hT hP (by omega) ?_
    intro σ1 h1
    rw [hb] at h1 ⊢
    refine g_has_63 hT h1 hs (fun s1 σ2 h2 => ?_) (fun s1 σ2 h2 => ?_)
    · rw [hbs] at s1 h2
      refine ⟨fun _ => ?_, fun h => absurd h (by decide +kernel)⟩
      have ete : te t n b = b + 3 := wB_te s1 (by decide)
      have etl := te_le (t := t) hs
      exact deep _ σ2 _ (by omega) (by unfold pAtom; rw [if_pos s1]) h2
    · rw [hbs] at s1 h2
      refine ⟨fun h => absurd rfl h, fun _ => ?_⟩
      refine g_isSign (c := 40) rfl hT h2 (by omega) (fun s2 σ3 h3 => ?_) (fun s2 σ3 h3 => ?_)
      · rw [hbs] at s2 h3
        refine ⟨fun _ => ?_, fun h => absurd h (by decide +kernel)⟩
        exact deep _ σ3 _ hs (by unfold pAtom; rw [if_neg s1, if_pos s2]) h3
      · rw [hbs] at s2 h3
        refine ⟨fun h => absurd rfl h, fun _ => ?_⟩
        have e0 : pAtom t n 0 b = pPlain t n b := by unfold pAtom; rw [if_neg s1, if_neg s2]
        refine g_plain hT h15 σ3 b _ hs h3 (fun b' c' e σ4 p4 v4 a1 a2 a3 a4 a5 => ?_) (fun e he σ4 p4 v4 a1 a2 a5 => ?_)
        · rw [hbs] at e
          exact ⟨b01_z a5, q1 b' c' (e0.trans e) σ4 p4 v4 a1 a2 a3 a4 a5⟩
        · rw [hbs] at he
          exact ⟨b01_z a5, q0 e (e0.trans he) σ4 p4 v4 a1 a2 a5⟩
  | succ D ih =>
    intro d dp hdp σ p Q hp hP q1 q0
    have hs := sk_le (t := t) hp
    generalize hb : sk t n p = b at *
    have hbs : sk t n b = b := by rw [← hb]; exact sk_idem
    have hA := ih d (dp + 1) (by omega)
    have hA2 := ih (d + 2) (dp + 1) (by omega)
    rw [show d + 2 + 3 * D + 8 = d + 3 * D + 10 by omega] at hA2
    have hGA := gd_atom (t := t) (n := n) D
    have hE := g_every hA hGA hT
    have hS := g_some hE rfl (gd_every hGA) hT
    rw [show d + 3 * (D + 1) + 8 = (d + 3 * D + 10) + 1 by omega]
    refine ⟨rfl, fun X hX => ?_⟩
    have fin : ∀ f σ1 p1 v, Q (.inl (some (.int v))) sh_10 (mput σ1 0 13 (σ1 0 13 - nI 1)) → b01 v → PS σ0 σ1 p1 f (dp + 1) → X 138 [some (.ref 0), none, none, some (.int v)] [] sh_10 σ1 0 0 := by
      intro f σ1 p1 v hq hv h1
      refine hX _ _ _ _ _ _ _ ?_
      exact ⟨b01_z hv, hq⟩
    have bk : ∀ f σ1 p1, PS σ0 σ1 p1 f (dp + 1) → PS σ0 (mput σ1 0 13 (σ1 0 13 - nI 1)) p1 f dp := by
      intro f σ1 p1 h1
      exact h1.dp1 (by rw [h1.2.2.2, nI_sub (by omega)]; congr 1)
    have nots : ∀ σ1, wB t n b [110, 111, 116] = true → PS σ0 σ1 (b + 3) (-(nI 1)) dp → X 40 [some (.ref 0), some (.int (nI b)), some (.int (nI 1)), none] [] sh_10 σ1 0 0 := by
      intro σ1 s1 h1
      have ete : te t n b = b + 3 := wB_te s1 (by decide)
      have etl := te_le (t := t) hs
      have enx : sk t n (b + 3) = nx t n b := by unfold nx; rw [ete]
      have e0 : pAtom t n (D + 1) b = pNot t n (pAtom t n D) b := by rw [pAtom]; exact if_pos s1
      refine hX _ _ _ _ _ _ _ ?_
      refine b_ne h1.2.2.2 (b := 6) rfl (by omega) (by omega) (fun _ => ?_) (fun h => by omega)
      refine hX _ _ _ _ _ _ _ ?_
      refine ⟨fun h => absurd h (by decide +kernel), fun _ => ?_⟩
      have h2 : PS σ0 (mput σ1 0 13 (σ1 0 13 + nI 1)) (b + 3) (-(nI 1)) (dp + 1) := h1.dp1 (by rw [h1.2.2.2]; exact nI_1 dp)
      refine hA2 _ (b + 3) _ (by omega) h2 (fun b' c' e σ4 p4 v4 a1 a2 a3 a4 a5 => ?_) (fun e he σ4 p4 v4 a1 a2 a5 => ?_)
      · rw [enx] at e
        have key : ∀ u, u = nI 1 - v4 → b01 u → X 84 [some (.ref 0), none, none, none] [.int u] sh_10 σ4 0 0 := by
          intro u hu hu2
          refine hX _ _ _ _ _ _ _ ?_
          refine fin _ σ4 p4 u ?_ hu2 a3
          refine q1 b' (c' ++ [cw (nI 0) 11]) (by rw [e0]; unfold pNot; rw [e]) _ p4 u a1 a2 (bk _ σ4 p4 a3) ?_ hu2
          rw [hu]
          exact a4.not.wk (by omega)
        rcases a5 with rfl | rfl
        · refine ⟨fun h => absurd rfl h, fun _ => ?_⟩
          exact key (nI 1) (by decide +kernel) b01_1
        · refine ⟨fun _ => ?_, fun h => absurd h (by decide +kernel)⟩
          refine hX _ _ _ _ _ _ _ ?_
          exact key (nI 0) (by decide +kernel) b01_0
      · rw [enx] at he
        have key : ∀ u, b01 u → X 84 [some (.ref 0), none, none, none] [.int u] sh_10 σ4 0 0 := by
          intro u hu2
          refine hX _ _ _ _ _ _ _ ?_
          refine fin _ σ4 p4 u ?_ hu2 a2
          exact q0 e (by rw [e0]; unfold pNot; rw [he]) _ p4 u (by omega) (bk _ σ4 p4 a2) hu2
        rcases a5 with rfl | rfl
        · refine ⟨fun h => absurd rfl h, fun _ => ?_⟩
          exact key (nI 1) b01_1
        · refine ⟨fun _ => ?_, fun h => absurd h (by decide +kernel)⟩
          refine hX _ _ _ _ _ _ _ ?_
          exact key (nI 0) b01_0
    have pars : ∀ σ1, ¬ wB t n b [110, 111, 116] = true → sgB t n b 40 = true → PS σ0 σ1 b (-(nI 1)) dp → X 40 [some (.ref 0), some (.int (nI b)), some (.int (nI 0)), none] [] sh_10 σ1 0 0 := by
      intro σ1 s1 s2 h1
      have hlt := (sgB_iff.mp s2).1
      have enx : nx t n b = sk t n (b + 1) := by unfold nx; rw [sgB_te s2 (by decide +kernel) (by decide +kernel)]
      have e0 : pAtom t n (D + 1) b = pPar t n (pAtom t n D) b := by rw [pAtom]; exact (if_neg s1).trans (if_pos s2)
      have hgd := gd_some hGA (nx t n b) (nx_le hs) nx_sk
      refine hX _ _ _ _ _ _ _ ?_
      refine b_ne h1.2.2.2 (b := 6) rfl (by omega) (by omega) (fun _ => ?_) (fun h => by omega)
      refine hX _ _ _ _ _ _ _ ?_
      refine ⟨fun _ => ?_, fun h => absurd rfl h⟩
      refine hX _ _ _ _ _ _ _ ?_
      have h2 : PS σ0 (mput σ1 0 13 (σ1 0 13 + nI 1)) b (-(nI 1)) (dp + 1) := h1.dp1 (by rw [h1.2.2.2]; exact nI_1 dp)
      have h3 : PS σ0 (mput (mput σ1 0 13 (σ1 0 13 + nI 1)) 0 11 (mput σ1 0 13 (σ1 0 13 + nI 1) 0 11 + nI 1)) (b + 1) (-(nI 1)) (dp + 1) := h2.at1 (by rw [h2.2.1]; exact nI_1 b)
      refine hS _ (b + 1) _ (by omega) h3 (fun b' c' e σ4 p4 v4 a1 a2 a3 a4 a5 => ?_) (fun e he σ4 p4 v4 a1 a2 a5 => ?_)
      · rw [← enx] at e
        obtain ⟨g1, g2, g3, g4, g5⟩ := hgd.1 b' c' e
        refine ⟨fun h => absurd a3.2.2.1 h, fun _ => ?_⟩
        refine g_isSign (c := 41) rfl hT a3 (by omega) (fun s3 σ5 h5 => ?_) (fun s3 σ5 h5 => ?_)
        · rw [a2] at s3 h5
          have hlt2 := (sgB_iff.mp s3).1
          have enx2 : nx t n b' = sk t n (b' + 1) := by unfold nx; rw [sgB_te s3 (by decide +kernel) (by decide +kernel)]
          refine ⟨fun _ => ?_, fun h => absurd h (by decide +kernel)⟩
          refine hX _ _ _ _ _ _ _ ?_
          have h6 : PS σ0 (mput σ5 0 11 (σ5 0 11 + nI 1)) (b' + 1) (-(nI 1)) (dp + 1) := h5.at1 (by rw [h5.2.1]; exact nI_1 b')
          refine fin _ _ _ v4 ?_ a5 h6
          exact q1 (nx t n b') c' (by rw [e0]; unfold pPar; rw [e]; exact if_pos s3) _ (b' + 1) v4 (by omega) enx2.symm (bk _ _ _ h6) (a4.wk (by omega)) a5
        · rw [a2] at s3 h5
          refine ⟨fun h => absurd rfl h, fun _ => ?_⟩
          refine g_wrong h5.2.1 h5 ?_
          intro σ6 h6
          refine hX _ _ _ _ _ _ _ ?_
          have h7 : PS σ0 (mput σ6 0 11 (σ6 0 11 + nI 1)) (b' + 1) (nI b') (dp + 1) := h6.at1 (by rw [h6.2.1]; exact nI_1 b')
          refine fin _ _ _ v4 ?_ a5 h7
          exact q0 b' (by rw [e0]; unfold pPar; rw [e]; exact if_neg s3) _ (b' + 1) v4 (by omega) (bk _ _ _ h7) a5
      · rw [← enx] at he
        have hen := hgd.2 e he
        refine ⟨fun _ => ?_, fun h => absurd (a2.2.2.1.symm.trans h) (nI_ne1 (by omega))⟩
        refine hX _ _ _ _ _ _ _ ?_
        have h7 : PS σ0 (mput σ4 0 11 (σ4 0 11 + nI 1)) (p4 + 1) (nI e) (dp + 1) := a2.at1 (by rw [a2.2.1]; exact nI_1 p4)
        refine fin _ _ _ v4 ?_ a5 h7
        exact q0 e (by rw [e0]; unfold pPar; rw [he]) _ (p4 + 1) v4 (by omega) (bk _ _ _ h7) a5
    refine hX _ _ _ _ _ _ _ ?_
    refine ⟨fun _ => ?_, fun h => absurd hP.2.2.1 h⟩
    refine hX _ _ _ _ _ _ _ ?_
    refine g_here hT hP (by omega) ?_
    intro σ1 h1
    rw [hb] at h1 ⊢
    refine g_has_63 hT h1 hs (fun s1 σ2 h2 => ?_) (fun s1 σ2 h2 => ?_)
    · rw [hbs] at s1 h2
      refine ⟨fun _ => ?_, fun h => absurd h (by decide +kernel)⟩
      exact nots σ2 s1 h2
    · rw [hbs] at s1 h2
      refine ⟨fun h => absurd rfl h, fun _ => ?_⟩
      refine g_isSign (c := 40) rfl hT h2 (by omega) (fun s2 σ3 h3 => ?_) (fun s2 σ3 h3 => ?_)
      · rw [hbs] at s2 h3
        refine ⟨fun _ => ?_, fun h => absurd h (by decide +kernel)⟩
        exact pars σ3 s1 s2 h3
      · rw [hbs] at s2 h3
        refine ⟨fun h => absurd rfl h, fun _ => ?_⟩
        have e0 : pAtom t n (D + 1) b = pPlain t n b := by rw [pAtom]; exact (if_neg s1).trans (if_neg s2)
        refine g_plain hT h15 σ3 b _ hs h3 (fun b' c' e σ4 p4 v4 a1 a2 a3 a4 a5 => ?_) (fun e he σ4 p4 v4 a1 a2 a5 => ?_)
        · rw [hbs] at e
          exact ⟨b01_z a5, q1 b' c' (e0.trans e) σ4 p4 v4 a1 a2 a3 (a4.wk (by omega)) a5⟩
        · rw [hbs] at he
          exact ⟨b01_z a5, q0 e (e0.trans he) σ4 p4 v4 (by omega) a2 a5⟩
end MCE
