/-! THE MODEL: a street's line; any line of the yard -/
section MST
variable {d : Nat} {σ0 σ : mSg} {m : Nat → Int32} {t : Nat → Int32} {n p : Nat} {Q : mPst}
set_option maxHeartbeats 8000000 in
theorem g_streetLine {bb c : Nat} (hT : ∀ m, TX (mM σ0 m) t n) (hbb : bb ≤ n) (h4 : m 3 = nI c) (hc : c ≤ 7) (hp : p ≤ n) (hP : PS (mM σ0 m) σ p (-(nI 1)) 0) (hq : YQ σ0 t n m Q (if m 3 = nI 7 then .inr bb else yStreet t n (sk t n p) m)) : mD (d + 6) 106 [.ref 0, .int (nI bb)] sh_10 σ Q := by
  have hn := (hT m).2.1
  refine ⟨rfl, fun X hX => ?_⟩
  have e4 : σ 1 3 = nI c := hP.r1.trans h4
  refine hX _ _ _ _ _ _ _ ?_
  refine ⟨vp_in_nI (n := 3) (by omega) (by omega), ?_⟩
  refine b_ne e4 (b := 7) rfl (by omega) (by omega) (fun h => ?_) (fun h => ?_)
  · rw [if_neg (by rw [h4, nI_eq (by omega) (by omega)]; exact h)] at hq
    have hs := sk_le (t := t) hp
    generalize hb : sk t n p = b at *
    have l1 := nx_le (t := t) hs
    have l2 := nx_le (t := t) l1
    have l3 := nx_le (t := t) l2
    have l4 := nx_le (t := t) l3
    unfold yStreet at hq
    refine hX _ _ _ _ _ _ _ ?_
    refine g_after_76 (lo := nI 0) (hi := nI 9) (hT m) hP hp (fun w1 n1 σ1 P1 => ?_) (fun hw σ1 p1 v1 hp1 P1 => ?_)
    · rw [hb] at w1 n1 P1 ⊢
      simp only [eW_y w1, eN_y n1] at hq
      refine g_figures (lo := nI 0) (hi := nI 9) (hT m) P1 (run_le l1) (fun n2 σ2 P2 => ?_) (fun hw σ2 p2 v2 hp2 P2 => ?_)
      · rw [sk_run n1] at n2 P2 ⊢
        simp only [eN_y n2] at hq
        refine g_expects_77 (hT m) P2 (run_le l2) (fun w3 σ3 P3 => ?_) (fun w3 σ3 P3 => ?_)
        · rw [sk_run n2] at w3 P3
          simp only [eW_y w3] at hq
          generalize hb4 : nx t n (nx t n (nx t n (nx t n b))) = b4 at *
          have e3 : te t n (nx t n (nx t n (nx t n b))) = nx t n (nx t n (nx t n b)) + 3 := wB_te w3 (by decide)
          have e3l := te_le (t := t) l3
          have hsb : sk t n (nx t n (nx t n (nx t n b)) + 3) = b4 := by
            rw [← hb4]
            show _ = sk t n (te t n (nx t n (nx t n (nx t n b))))
            rw [e3]
          generalize hV1 : nV t n (nx t n b) = x at *
          generalize hV2 : nV t n (nx t n (nx t n b)) = y at *
          have hbs : sk t n b4 = b4 := by rw [← hsb]; exact sk_idem
          -- the row is written
          have wr : run kD t n b4 = b4 + 6 → ∀ σ5 p5 w, p5 ≤ n → PS (mM σ0 m) σ5 p5 (-(nI 1)) 0 → YQ σ0 t n m Q (.inl (sk t n p5, yMx (yaS m (cN m 3) x y w) (cN m 3) t b4 6)) → X 151 [some (.ref 0), none, some (.int x), some (.int y), none, some (.int (nI b4)), none, some (.int w), none, none] [] sh_10 σ5 0 0 := by
            intro hr σ5 p5 w hp5 P5 hq5
            have e5 : σ5 1 3 = nI c := P5.r1.trans h4
            have ej : ∀ j, nI 20 + nI 9 * σ5 1 3 + nI j = nI (20 + 9 * c + j) := fun j => by rw [e5, nI_mul, nI_add, nI_add]
            have P6 : PS (mM σ0 (upd (upd (upd m (20 + 9 * c) x) (21 + 9 * c) y) (22 + 9 * c) w)) (mput (mput (mput σ5 1 (nI 20 + nI 9 * σ5 1 3 + nI 0).toNatClampNeg x) 1 (nI 20 + nI 9 * σ5 1 3 + nI 1).toNatClampNeg y) 1 (nI 20 + nI 9 * σ5 1 3 + nI 2).toNatClampNeg w) p5 (-(nI 1)) 0 := by
              rw [clN (ej 0) (by omega), clN (ej 1) (by omega), clN (ej 2) (by omega), show 20 + 9 * c + 1 = 21 + 9 * c by omega, show 20 + 9 * c + 2 = 22 + 9 * c by omega]
              exact P5.rput.rput.rput
            have loop : ∀ j k σ6, 6 - k = j → k ≤ 6 → PS (mM σ0 (yMx (upd (upd (upd m (20 + 9 * c) x) (21 + 9 * c) y) (22 + 9 * c) w) c t b4 k)) σ6 p5 (-(nI 1)) 0 → X 199 [some (.ref 0), none, none, none, none, some (.int (nI b4)), none, none, some (.int (nI (20 + 9 * c))), some (.int (nI k))] [] sh_10 σ6 0 0 := by
              intro j
              induction j with
              | zero =>
                intro k σ6 hj hk P
                have ek : k = 6 := by omega
                subst ek
                refine hX _ _ _ _ _ _ _ ?_
                refine b_ge rfl (b := 6) rfl (by omega) (by omega) (fun _ => ?_) (fun h => by omega)
                refine hX _ _ _ _ _ _ _ ?_
                refine ⟨vp_in_nI (n := 3) (by omega) (by omega), vp_in_nI (n := 3) (by omega) (by omega), ?_⟩
                have e33 : σ6 1 3 = nI c := by rw [P.r1, yMx_off 6 (by omega), upd_off (by omega), upd_off (by omega), upd_off (by omega)]; exact h4
                refine hq5.1 _ _ rfl _ p5 hp5 rfl ?_
                have P7 := P.rput (k := 3) (v := σ6 1 3 + nI 1)
                rw [cN_eq h4 (by omega)]
                unfold yaS
                rw [yMx_3, ← nI_1 c, ← e33]
                exact P7
              | succ j ih =>
                intro k σ6 hj hk P
                have hlt : b4 + k < n := (run_all (P := kD) (t := t) (n := n) (p := b4) (q := b4 + k) (by omega) (by omega)).1
                have ei : nI (20 + 9 * c) + nI 3 + nI k = nI (23 + 9 * c + k) := by rw [nI_add, nI_add]; congr 1; omega
                refine hX _ _ _ _ _ _ _ ?_
                refine b_ge rfl (b := 6) rfl (by omega) (by omega) (fun h => by omega) (fun _ => ?_)
                refine g_letter (hT _) P (nI_add _ _) hlt ?_
                refine ⟨vin ei (by omega) (by omega), ?_⟩
                have P7 := P.rput (k := 23 + 9 * c + k) (v := t (b4 + k) - nI 48)
                have h9 := ih (k + 1) _ (by omega) (by omega) P7
                rw [← nI_1 k, ← clN ei (by omega)] at h9
                exact h9
            refine hX _ _ _ _ _ _ _ ?_
            refine ⟨vp_in_nI (n := 3) (by omega) (by omega), vin (ej 0) (by omega) (by omega), vin (ej 1) (by omega) (by omega), vin (ej 2) (by omega) (by omega), ?_⟩
            have h9 := loop 6 0 _ rfl (by omega) P6
            rw [show nI (20 + 9 * c) = nI 20 + nI 9 * σ5 1 3 by rw [e5, nI_mul, nI_add]] at h9
            exact h9
          have l140 : run kD t n b4 = b4 + 6 → ∀ σ5 p5 w, p5 ≤ n → PS (mM σ0 m) σ5 p5 (-(nI 1)) 0 → YQ σ0 t n m Q (.inl (sk t n p5, yMx (yaS m (cN m 3) x y w) (cN m 3) t b4 6)) → X 140 [some (.ref 0), none, some (.int x), some (.int y), none, some (.int (nI b4)), none, none, none, none] [.int w] sh_10 σ5 0 0 := by
            intro hr σ5 p5 w hp5 P5 hq5
            refine hX _ _ _ _ _ _ _ ?_
            refine ⟨fun _ => ?_, fun h => absurd P5.2.2.1 h⟩
            exact wr hr σ5 p5 w hp5 P5 hq5
          have mid : ∀ k σ4, run kD t n b4 = b4 + k → k ≤ 400 → PS (mM σ0 m) σ4 b4 (-(nI 1)) 0 → X 97 [some (.ref 0), none, some (.int x), some (.int y), none, some (.int (nI b4)), some (.int (nI k)), none, none, none] [] sh_10 σ4 0 0 := by
            intro k σ4 hr hk P4
            have hle := run_le (P := kD) (t := t) l4
            refine hX _ _ _ _ _ _ _ ?_
            refine b_eq rfl (b := 6) rfl (by omega) (by omega) (fun h6 => ?_) (fun h6 => ?_)
            · subst h6
              rw [eF_y hr] at hq
              have hd0 := (run_all (P := kD) (t := t) (n := n) (p := b4) (q := b4) (Nat.le_refl _) (by omega))
              have ete : te t n b4 = b4 + 6 := by
                unfold te
                rw [if_pos hd0.1, if_neg (fun z => kL_D z hd0.2), if_pos hd0.2]; exact hr
              have e5 : sk t n (b4 + 6) = nx t n b4 := by unfold nx; rw [ete]
              have l5 := nx_le (t := t) l4
              refine hX _ _ _ _ _ _ _ ?_
              have P5 : PS (mM σ0 m) (mput σ4 0 11 (nI b4 + nI 6)) (b4 + 6) (-(nI 1)) 0 := P4.at1 (nI_add _ _)
              refine g_has_70 (hT m) P5 (by omega) (fun w5 σ6 P6 => ?_) (fun w5 σ6 P6 => ?_)
              · rw [e5] at w5 P6
                simp only [eO_y w5] at hq
                have e6 : te t n (nx t n b4) = nx t n b4 + 5 := wB_te w5 (by decide)
                have e6l := te_le (t := t) l5
                have e6s : sk t n (nx t n b4 + 5) = nx t n (nx t n b4) := by
                  show _ = sk t n (te t n (nx t n b4))
                  rw [e6]
                have l6 := nx_le (t := t) l5
                refine ⟨fun h => absurd h (by decide +kernel), fun _ => ?_⟩
                refine g_figures (lo := nI 0) (hi := nI 99) (hT m) P6 (by omega) (fun n7 σ7 P7 => ?_) (fun hw σ7 p7 v7 hp7 P7 => ?_)
                · rw [e6s] at n7 P7 ⊢
                  simp only [eN_y n7] at hq
                  rw [← sk_run n7] at hq
                  exact l140 hr σ7 _ _ (run_le l6) P7 hq
                · rw [e6s] at hw P7
                  simp only [eN_n hw] at hq
                  refine hX _ _ _ _ _ _ _ ?_
                  refine ⟨fun h => absurd (P7.2.2.1.symm.trans h) (nI_ne1 (by omega)), fun _ => ?_⟩
                  exact hq.2 _ rfl σ7 p7 hp7 P7
              · rw [e5] at w5 P6
                simp only [eO_n w5] at hq
                refine ⟨fun _ => ?_, fun h => absurd rfl h⟩
                refine hX _ _ _ _ _ _ _ ?_
                refine l140 hr σ6 (nx t n b4) (nI 0) l5 P6 ?_
                rw [nx_sk]; exact hq
            · rw [eF_n (by omega)] at hq
              refine g_wrong rfl P4 ?_
              intro σ5 P5
              exact hq.2 _ rfl σ5 b4 l4 P5
          have loop : ∀ j k σ4, n - (b4 + k) = j → b4 + k ≤ n → run kD t n b4 = run kD t n (b4 + k) → PS (mM σ0 m) σ4 b4 (-(nI 1)) 0 → X 60 [some (.ref 0), none, some (.int x), some (.int y), none, some (.int (nI b4)), some (.int (nI k)), none, none, none] [] sh_10 σ4 0 0 := by
            intro j
            induction j with
            | zero =>
              intro k σ4 hj hk hr P4
              refine hX _ _ _ _ _ _ _ ?_
              refine b_ge (a := b4 + k) (nI_add _ _) (P4.en (hT m)) (by omega) (by omega) (fun _ => ?_) (fun h => by omega)
              exact mid k σ4 (by rw [hr, run_stop (by omega)]) (by omega) P4
            | succ j ih =>
              intro k σ4 hj hk hr P4
              refine hX _ _ _ _ _ _ _ ?_
              refine b_ge (a := b4 + k) (nI_add _ _) (P4.en (hT m)) (by omega) (by omega) (fun h => by omega) (fun hlt => ?_)
              refine g_letter (hT m) P4 (nI_add _ _) hlt ?_
              refine g_isIn (fun h2 => ?_) (fun h2 => ?_)
              · refine ⟨fun h3 => absurd h3 (by decide +kernel), fun _ => ?_⟩
                have h9 := ih (k + 1) σ4 (by omega) (by omega) (by rw [hr]; exact run_step hlt (kD_iff.mpr h2)) P4
                rw [← nI_1 k] at h9
                exact h9
              · refine ⟨fun _ => ?_, fun h3 => absurd rfl h3⟩
                exact mid k σ4 (by rw [hr, run_stop (fun z => h2 (kD_iff.mp z.2))]) (by omega) P4
          refine ⟨fun _ => ?_, fun h => absurd P3.2.2.1 h⟩
          refine hX _ _ _ _ _ _ _ ?_
          refine g_here (hT m) P3 (by omega) ?_
          intro σ4 P4
          rw [hsb] at P4 ⊢
          exact loop _ 0 σ4 rfl l4 rfl P4
        · rw [sk_run n2] at w3 P3
          simp only [eW_n w3] at hq
          refine ⟨fun h => absurd (P3.2.2.1.symm.trans h) (nI_ne1 (by omega)), fun _ => ?_⟩
          exact hq.2 _ rfl σ3 _ l3 P3
      · rw [sk_run n1] at hw P2
        simp only [eN_n hw] at hq
        refine g_expectsF_77 (nI_ne1 (by omega)) P2 ?_
        refine ⟨fun h => absurd (P2.2.2.1.symm.trans h) (nI_ne1 (by omega)), fun _ => ?_⟩
        exact hq.2 _ rfl σ2 p2 hp2 P2
    · rw [hb] at hw P1
      have := aE_le (t := t) (w := [97, 116]) hs
      rw [eA_n hw] at hq
      refine g_figF (nI_ne1 (by omega)) P1 ?_
      refine g_expectsF_77 (nI_ne1 (by omega)) P1 ?_
      refine ⟨fun h => absurd (P1.2.2.1.symm.trans h) (nI_ne1 (by omega)), fun _ => ?_⟩
      exact hq.2 _ rfl σ1 p1 hp1 P1
  · rw [if_pos (by rw [h4, h])] at hq
    refine g_wrong rfl hP ?_
    intro σ1 P1
    refine hX _ _ _ _ _ _ _ ?_
    refine g_afterF_76 (nI_ne1 (by omega)) P1 ?_
    refine g_figF (nI_ne1 (by omega)) P1 ?_
    refine g_expectsF_77 (nI_ne1 (by omega)) P1 ?_
    refine ⟨fun h => absurd (P1.2.2.1.symm.trans h) (nI_ne1 (by omega)), fun _ => ?_⟩
    exact hq.2 _ rfl σ1 p hp P1
theorem g_yardLine {m0 : Nat → Int32} (hT : ∀ m, TX (mM σ0 m) t n) : LnP t n (yLine t n) (fun s => mM σ0 s.2) (fun s => YI m0 s.2) 115 (d + 7) := by
  intro σ p s Q hp hI hP q1 q0
  obtain ⟨cnt, m⟩ := s
  obtain ⟨⟨nn, nc, ns, nd, hB⟩, -⟩ := hI
  have hn := (hT m).2.1
  have hs := sk_le (t := t) hp
  have hP : PS (mM σ0 m) σ p (-(nI 1)) 0 := hP
  have hq : YQ σ0 t n m Q (yl t n (sk t n p) m) := by
    refine ⟨fun b' m' e σ' p' h1 h2 h3 => ?_, fun e he σ' p' h1 h2 => ?_⟩
    · exact q1 b' (cnt + 1, m') (by unfold yLine; show (match yl t n (sk t n p) m with | .inl (b', m') => _ | .inr e => _) = _; rw [e]) σ' p' h1 h2 h3
    · exact q0 e (by unfold yLine; show (match yl t n (sk t n p) m with | .inl (b', m') => _ | .inr e => _) = _; rw [he]) σ' p' (by omega) h2
  clear q1 q0
  generalize hb : sk t n p = b at *
  have hbs : sk t n b = b := by rw [← hb]; exact sk_idem
  have wn : ∀ (w : List Nat) l, l = w.length → 0 < w.length → wB t n b w = true → b + l ≤ n ∧ sk t n (b + l) = nx t n b := by
    intro w l hl hw h
    have e := wB_te h hw
    have e2 := te_le (t := t) hs
    exact ⟨by omega, by unfold nx; rw [e, hl]⟩
  refine ⟨rfl, fun X hX => ?_⟩
  unfold yl yRest at hq
  refine hX _ _ _ _ _ _ _ ?_
  refine g_here (hT m) hP (by omega) ?_
  intro σ1 P1
  rw [hb] at P1 ⊢
  refine g_has_67 (hT m) P1 hs (fun w1 σ2 P2 => ?_) (fun w1 σ2 P2 => ?_)
  · rw [hbs] at w1 P2
    obtain ⟨z1, z2⟩ := wn _ 6 rfl (by decide) w1
    simp only [eO_y w1] at hq
    refine ⟨fun h => absurd h (by decide +kernel), fun _ => ?_⟩
    refine g_streetLine hT hs hB.1.1 hB.1.2 z1 P2 ?_
    rw [z2]
    refine ⟨fun b' m' e σ' p' h1 h2 h3 => ?_, fun e he σ' p' h1 h2 => ?_⟩
    · refine hX _ _ _ _ _ _ _ ?_
      exact hq.1 b' m' e σ' p' h1 h2 h3
    · refine hX _ _ _ _ _ _ _ ?_
      exact hq.2 e he σ' p' h1 h2
  rw [hbs] at w1 P2
  simp only [eO_n w1] at hq
  refine ⟨fun _ => ?_, fun h => absurd rfl h⟩
  refine hX _ _ _ _ _ _ _ ?_
  refine g_has_78 (hT m) P2 hs (fun w2 σ3 P3 => ?_) (fun w2 σ3 P3 => ?_)
  · rw [hbs] at w2 P3
    obtain ⟨z1, z2⟩ := wn _ 4 rfl (by decide) w2
    simp only [eO_y w2] at hq
    refine ⟨fun h => absurd h (by decide +kernel), fun _ => ?_⟩
    refine g_cartLine hT hs hB.2.1.1 hB.2.1.2 z1 P3 ?_
    rw [z2]
    refine ⟨fun b' m' e σ' p' h1 h2 h3 => ?_, fun e he σ' p' h1 h2 => ?_⟩
    · refine hX _ _ _ _ _ _ _ ?_
      exact hq.1 b' m' e σ' p' h1 h2 h3
    · refine hX _ _ _ _ _ _ _ ?_
      exact hq.2 e he σ' p' h1 h2
  rw [hbs] at w2 P3
  simp only [eO_n w2] at hq
  refine ⟨fun _ => ?_, fun h => absurd rfl h⟩
  refine hX _ _ _ _ _ _ _ ?_
  refine g_has_81 (hT m) P3 hs (fun w3 σ4 P4 => ?_) (fun w3 σ4 P4 => ?_)
  · rw [hbs] at w3 P4
    obtain ⟨z1, z2⟩ := wn _ 5 rfl (by decide) w3
    simp only [eO_y w3] at hq
    refine ⟨fun h => absurd h (by decide +kernel), fun _ => ?_⟩
    refine g_sieveLine hT hs hB.2.2.1.1 hB.2.2.1.2 z1 P4 ?_
    rw [z2]
    refine ⟨fun b' m' e σ' p' h1 h2 h3 => ?_, fun e he σ' p' h1 h2 => ?_⟩
    · refine hX _ _ _ _ _ _ _ ?_
      exact hq.1 b' m' e σ' p' h1 h2 h3
    · refine hX _ _ _ _ _ _ _ ?_
      exact hq.2 e he σ' p' h1 h2
  rw [hbs] at w3 P4
  simp only [eO_n w3] at hq
  refine ⟨fun _ => ?_, fun h => absurd rfl h⟩
  refine hX _ _ _ _ _ _ _ ?_
  refine g_has_82 (hT m) P4 hs (fun w4 σ5 P5 => ?_) (fun w4 σ5 P5 => ?_)
  · rw [hbs] at w4 P5
    obtain ⟨z1, z2⟩ := wn _ 8 rfl (by decide) w4
    simp only [eO_y w4] at hq
    refine ⟨fun h => absurd h (by decide +kernel), fun _ => ?_⟩
    refine g_dealLine hT hs hB.2.2.2.1.1 hB.2.2.2.1.2 z1 P5 ?_
    rw [z2]
    refine ⟨fun b' m' e σ' p' h1 h2 h3 => ?_, fun e he σ' p' h1 h2 => ?_⟩
    · refine hX _ _ _ _ _ _ _ ?_
      exact hq.1 b' m' e σ' p' h1 h2 h3
    · refine hX _ _ _ _ _ _ _ ?_
      exact hq.2 e he σ' p' h1 h2
  rw [hbs] at w4 P5
  simp only [eO_n w4] at hq
  refine ⟨fun _ => ?_, fun h => absurd rfl h⟩
  refine hX _ _ _ _ _ _ _ ?_
  refine g_has_86 (hT m) P5 hs (fun w5 σ6 P6 => ?_) (fun w5 σ6 P6 => ?_)
  · rw [hbs] at w5 P6
    obtain ⟨z1, z2⟩ := wn _ 4 rfl (by decide) w5
    simp only [eO_y w5] at hq
    refine ⟨fun h => absurd h (by decide +kernel), fun _ => ?_⟩
    refine g_heapLine hT z1 P6 ?_
    rw [z2]
    refine ⟨fun b' m' e σ' p' h1 h2 h3 => ?_, fun e he σ' p' h1 h2 => ?_⟩
    · refine hX _ _ _ _ _ _ _ ?_
      exact hq.1 b' m' e σ' p' h1 h2 h3
    · refine hX _ _ _ _ _ _ _ ?_
      exact hq.2 e he σ' p' h1 h2
  rw [hbs] at w5 P6
  simp only [eO_n w5] at hq
  refine ⟨fun _ => ?_, fun h => absurd rfl h⟩
  refine hX _ _ _ _ _ _ _ ?_
  refine g_has_87 (hT m) P6 hs (fun w6 σ7 P7 => ?_) (fun w6 σ7 P7 => ?_)
  · rw [hbs] at w6 P7
    obtain ⟨z1, z2⟩ := wn _ 4 rfl (by decide) w6
    simp only [eO_y w6] at hq
    refine ⟨fun h => absurd h (by decide +kernel), fun _ => ?_⟩
    refine g_tells (i := 7) (h' := 100) rfl (by omega) hT z1 P7 ?_
    rw [z2]
    refine ⟨fun b' m' e σ' p' h1 h2 h3 => ?_, fun e he σ' p' h1 h2 => ?_⟩
    · refine hX _ _ _ _ _ _ _ ?_
      exact hq.1 b' m' e σ' p' h1 h2 h3
    · refine hX _ _ _ _ _ _ _ ?_
      exact hq.2 e he σ' p' h1 h2
  rw [hbs] at w6 P7
  simp only [eO_n w6] at hq
  refine ⟨fun _ => ?_, fun h => absurd rfl h⟩
  refine hX _ _ _ _ _ _ _ ?_
  refine g_has_88 (hT m) P7 hs (fun w7 σ8 P8 => ?_) (fun w7 σ8 P8 => ?_)
  · rw [hbs] at w7 P8
    obtain ⟨z1, z2⟩ := wn _ 4 rfl (by decide) w7
    simp only [eO_y w7] at hq
    refine ⟨fun h => absurd h (by decide +kernel), fun _ => ?_⟩
    refine g_tells (i := 8) (h' := 100) rfl (by omega) hT z1 P8 ?_
    rw [z2]
    refine ⟨fun b' m' e σ' p' h1 h2 h3 => ?_, fun e he σ' p' h1 h2 => ?_⟩
    · refine hX _ _ _ _ _ _ _ ?_
      exact hq.1 b' m' e σ' p' h1 h2 h3
    · refine hX _ _ _ _ _ _ _ ?_
      exact hq.2 e he σ' p' h1 h2
  rw [hbs] at w7 P8
  simp only [eO_n w7] at hq
  refine ⟨fun _ => ?_, fun h => absurd rfl h⟩
  refine hX _ _ _ _ _ _ _ ?_
  refine g_has_72 (hT m) P8 hs (fun w8 σ9 P9 => ?_) (fun w8 σ9 P9 => ?_)
  · rw [hbs] at w8 P9
    obtain ⟨z1, z2⟩ := wn _ 4 rfl (by decide) w8
    simp only [eO_y w8] at hq
    refine ⟨fun h => absurd h (by decide +kernel), fun _ => ?_⟩
    refine g_tells (i := 9) (h' := 999) rfl (by omega) hT z1 P9 ?_
    rw [z2]
    refine ⟨fun b' m' e σ' p' h1 h2 h3 => ?_, fun e he σ' p' h1 h2 => ?_⟩
    · refine hX _ _ _ _ _ _ _ ?_
      exact hq.1 b' m' e σ' p' h1 h2 h3
    · refine hX _ _ _ _ _ _ _ ?_
      exact hq.2 e he σ' p' h1 h2
  rw [hbs] at w8 P9
  simp only [eO_n w8] at hq
  refine ⟨fun _ => ?_, fun h => absurd rfl h⟩
  refine hX _ _ _ _ _ _ _ ?_
  refine g_has_73 (hT m) P9 hs (fun w9 σ10 P10 => ?_) (fun w9 σ10 P10 => ?_)
  · rw [hbs] at w9 P10
    obtain ⟨z1, z2⟩ := wn _ 3 rfl (by decide) w9
    simp only [eO_y w9] at hq
    refine ⟨fun h => absurd h (by decide +kernel), fun _ => ?_⟩
    refine g_tells (i := 10) (h' := 999) rfl (by omega) hT z1 P10 ?_
    rw [z2]
    refine ⟨fun b' m' e σ' p' h1 h2 h3 => ?_, fun e he σ' p' h1 h2 => ?_⟩
    · refine hX _ _ _ _ _ _ _ ?_
      exact hq.1 b' m' e σ' p' h1 h2 h3
    · refine hX _ _ _ _ _ _ _ ?_
      exact hq.2 e he σ' p' h1 h2
  rw [hbs] at w9 P10
  simp only [eO_n w9] at hq
  refine ⟨fun _ => ?_, fun h => absurd rfl h⟩
  refine hX _ _ _ _ _ _ _ ?_
  refine g_has_64 (hT m) P10 hs (fun w10 σ11 P11 => ?_) (fun w10 σ11 P11 => ?_)
  · rw [hbs] at w10 P11
    obtain ⟨z1, z2⟩ := wn _ 5 rfl (by decide) w10
    simp only [eO_y w10] at hq
    refine ⟨fun h => absurd h (by decide +kernel), fun _ => ?_⟩
    refine ⟨vp_in_nI (n := 11) (by omega) (by omega), ?_⟩
    refine hX _ _ _ _ _ _ _ ?_
    exact hq.1 _ _ rfl _ _ z1 z2 P11.rput
  rw [hbs] at w10 P11
  simp only [eO_n w10] at hq
  refine ⟨fun _ => ?_, fun h => absurd rfl h⟩
  refine hX _ _ _ _ _ _ _ ?_
  refine g_wrong P11.2.1 P11 ?_
  intro σ12 P12
  refine hX _ _ _ _ _ _ _ ?_
  exact hq.2 _ rfl σ12 b hs P12
end MST
