/-! THE MODEL: a line of the law; what the law says of a street -/
section MLW
variable {t : Nat → Int32} {n d : Nat} {σ0 : mSg}
theorem g_lawLine {x0 : Int32 × Int32} (hT0 : TX σ0 t n) (h15 : b01 (σ0 0 15)) : LnP t n (pLine t n) (Wl σ0 x0) lOks 127 (d + 29) := by
  intro σ p s Q hp hI hP q1 q0
  have hT := Wl_tx (x0 := x0) hT0 s
  have hn := hT.2.1
  have hs := sk_le (t := t) hp
  have h15' : b01 (Wl σ0 x0 s 0 15) := by rw [Wl_at (by omega)]; exact h15
  have hS := g_some (g_every (g_atom hT h15' 6 d 0 rfl) (gd_atom 6) hT) rfl (gd_every (gd_atom 6)) hT
  generalize hb : sk t n p = b at *
  have hbs : sk t n b = b := by rw [← hb]; exact sk_idem
  refine ⟨rfl, fun X hX => ?_⟩
  have upd3 : ∀ (k : Nat) (a : Int32) (c : List Int32) σ1 p1 b1, k ≤ 2 → p1 ≤ n → sk t n p1 = b1 → PS (Wl σ0 x0 s) σ1 p1 (-(nI 1)) 0 → pLine t n b s = .inl (b1, s ++ [(k, a, c)]) → lT (rho σ0) c = true → X 108 [some (.ref 0), some (.int (nI k)), some (.int a), none] [] sh_10 σ1 0 0 := by
    intro k a c σ1 p1 b1 hk hp1 hb1 h1 e hc
    have e16 : σ1 0 16 = (lfs (rho σ0) x0 s).1 := by rw [h1.1 0 16 (by omega), Wl_16]
    have e17 : σ1 0 17 = (lfs (rho σ0) x0 s).2 := by rw [h1.1 0 17 (by omega), Wl_17]
    have fin : ∀ u w : Int32, u = (if k = 0 then a else if k = 1 then -a else nI 0) → w = (if k = 2 then a else nI 0) → X 151 [none, none, none, none] [.int w, .int (σ1 0 17), .ref 0] sh_10 (mput σ1 0 16 (σ1 0 16 + u)) 0 0 := by
      intro u w hu hw
      refine hX _ _ _ _ _ _ _ ?_
      refine q1 _ _ e _ p1 hp1 hb1 ?_
      refine Wl_put h1 ?_
      rw [e16, e17, hu, hw]
      show (if lT (rho σ0) c = true then _ else _) = _
      rw [if_pos hc]
    have mid : ∀ u : Int32, u = (if k = 0 then a else if k = 1 then -a else nI 0) → X 132 [some (.ref 0), some (.int (nI k)), some (.int a), none] [.int u, .int (σ1 0 16), .ref 0] sh_10 σ1 0 0 := by
      intro u hu
      refine hX _ _ _ _ _ _ _ ?_
      refine b_ne rfl (b := 2) rfl (by omega) (by omega) (fun h => ?_) (fun h => ?_)
      · refine hX _ _ _ _ _ _ _ ?_
        exact fin u (nI 0) hu (by rw [if_neg h])
      · exact fin u a hu (by rw [if_pos h])
    refine hX _ _ _ _ _ _ _ ?_
    refine b_ne rfl (b := 0) rfl (by omega) (by omega) (fun h => ?_) (fun h => ?_)
    · refine hX _ _ _ _ _ _ _ ?_
      refine b_ne rfl (b := 1) rfl (by omega) (by omega) (fun h2 => ?_) (fun h2 => ?_)
      · refine hX _ _ _ _ _ _ _ ?_
        exact mid (nI 0) (by rw [if_neg h, if_neg h2])
      · exact mid (-a) (by rw [if_neg h, if_pos h2])
    · exact mid a (by rw [if_pos h])
  have last : ∀ (k : Nat) (a : Int32) (c : List Int32) (u : Int32) σ1 p1 b1, k ≤ 2 → p1 ≤ n → sk t n p1 = b1 → PS (Wl σ0 x0 s) σ1 p1 (-(nI 1)) 0 → pLine t n b s = .inl (b1, s ++ [(k, a, c)]) → b01 u → (u = nI 1 ↔ lT (rho σ0) c = true) → X 94 [some (.ref 0), some (.int (nI k)), some (.int a), none] [.int u] sh_10 σ1 0 0 := by
    intro k a c u σ1 p1 b1 hk hp1 hb1 h1 e hu hc
    refine hX _ _ _ _ _ _ _ ?_
    refine ⟨fun h => absurd h1.2.2.1 h, fun _ => ?_⟩
    rcases hu with rfl | rfl
    · refine ⟨fun h => absurd rfl h, fun _ => ?_⟩
      refine hX _ _ _ _ _ _ _ ?_
      refine q1 _ _ e _ p1 hp1 hb1 (Wl_same h1 ?_)
      show (if lT (rho σ0) c = true then _ else _) = _
      rw [if_neg (fun z => absurd (hc.mpr z) (by decide +kernel))]
    · refine ⟨fun _ => ?_, fun h => absurd h (by decide +kernel)⟩
      exact upd3 k a c σ1 p1 b1 hk hp1 hb1 h1 e (hc.mp rfl)
  have kind : ∀ (k : Nat) (w : List Nat) σ1, k ≤ 2 → 0 < w.length → wB t n b w = true → pW t n b [([109, 111, 114, 101], 0), ([108, 101, 115, 115], 1), ([116, 111, 108, 108], 2)] = some k → PS (Wl σ0 x0 s) σ1 (b + w.length) (-(nI 1)) 0 → X 40 [some (.ref 0), none, none, none] [.int (nI k)] sh_10 σ1 0 0 := by
    intro k w σ1 hk hw0 hw ek h1
    have hte := wB_te hw hw0
    have htl := te_le (t := t) hs
    have enx : sk t n (b + w.length) = nx t n b := by unfold nx; rw [hte]
    have hnl := nx_le (t := t) hs
    have hnl2 := nx_le (t := t) hnl
    refine hX _ _ _ _ _ _ _ ?_
    refine ⟨fun _ => ?_, fun h => absurd h (oN_ne (by omega))⟩
    refine hX _ _ _ _ _ _ _ ?_
    refine g_figures (lo := nI 0) (hi := nI 99) hT h1 (by omega) (fun h2 σ2 P2 => ?_) (fun h2 σ2 p2 v h3 P2 => ?_)
    · rw [enx] at h2 P2 ⊢
      have hte2 := nB_te h2
      have enx2 : sk t n (run kD t n (nx t n b)) = nx t n (nx t n b) := by
        show _ = sk t n (te t n (nx t n b))
        rw [hte2]
      refine ⟨fun _ => ?_, fun h => absurd P2.2.2.1 h⟩
      refine hX _ _ _ _ _ _ _ ?_
      refine g_has_62 hT P2 (run_le hnl) (fun s3 σ3 h3 => ?_) (fun s3 σ3 h3 => ?_)
      · rw [enx2] at s3 h3
        have hte3 : te t n (nx t n (nx t n b)) = nx t n (nx t n b) + 2 := wB_te s3 (by decide)
        have htl3 := te_le (t := t) hnl2
        have enx3 : sk t n (nx t n (nx t n b) + 2) = nx t n (nx t n (nx t n b)) := by
          show _ = sk t n (te t n (nx t n (nx t n b)))
          rw [hte3]
        have hgd := gd_some (gd_atom (t := t) (n := n) 6) (nx t n (nx t n (nx t n b))) (nx_le hnl2) nx_sk
        refine ⟨fun h => absurd h (by decide +kernel), fun _ => ?_⟩
        refine hS σ3 _ _ (by omega) h3 (fun b' c' e σ4 p4 v4 a1 a2 a3 a4 a5 => ?_) (fun e he σ4 p4 v4 a1 a2 a5 => ?_)
        · rw [enx3] at e
          rw [Wl_rho] at a4
          have ep : pLine t n b s = .inl (b', s ++ [(k, nV t n (nx t n b), c')]) := by
            unfold pLine; rw [ek]
            show (if _ then _ else _) = _
            rw [if_pos h2, if_pos s3, e]
          have hcv : lT (rho σ0) c' = true ↔ ¬ v4 = nI 0 := by
            unfold lT
            rw [a4.cvE, Bool.or_eq_true, decide_eq_true_eq, decide_eq_true_eq]
            exact ⟨fun z => z.resolve_left a4.ne, Or.inr⟩
          rcases a5 with rfl | rfl
          · refine ⟨fun _ => ?_, fun h => absurd rfl h⟩
            refine hX _ _ _ _ _ _ _ ?_
            exact last k _ c' (nI 0) σ4 p4 b' hk a1 a2 a3 ep b01_0 ⟨fun z => absurd z (by decide +kernel), fun z => absurd rfl (hcv.mp z)⟩
          · refine ⟨fun h => absurd h (by decide +kernel), fun _ => ?_⟩
            refine hX _ _ _ _ _ _ _ ?_
            exact last k _ c' (nI 1) σ4 p4 b' hk a1 a2 a3 ep b01_1 ⟨fun _ => hcv.mpr (by decide +kernel), fun _ => rfl⟩
        · rw [enx3] at he
          have hen := hgd.2 e he
          have ep : pLine t n b s = .inr e := by
            unfold pLine; rw [ek]
            show (if _ then _ else _) = _
            rw [if_pos h2, if_pos s3, he]
          have out : ∀ u, X 94 [some (.ref 0), some (.int (nI k)), some (.int (nV t n (nx t n b))), none] [.int u] sh_10 σ4 0 0 := by
            intro u
            refine hX _ _ _ _ _ _ _ ?_
            refine ⟨fun _ => ?_, fun h => absurd (a2.2.2.1.symm.trans h) (nI_ne1 (by omega))⟩
            refine hX _ _ _ _ _ _ _ ?_
            exact q0 e ep σ4 p4 (by omega) a2
          refine ⟨fun _ => ?_, fun _ => ?_⟩
          · refine hX _ _ _ _ _ _ _ ?_
            exact out _
          · refine hX _ _ _ _ _ _ _ ?_
            exact out _
      · rw [enx2] at s3 h3
        refine ⟨fun _ => ?_, fun h => absurd rfl h⟩
        refine hX _ _ _ _ _ _ _ ?_
        refine last k _ [] (nI 1) σ3 _ _ hk hnl2 nx_sk h3 ?_ b01_1 ⟨fun _ => rfl, fun _ => rfl⟩
        unfold pLine; rw [ek]
        show (if _ then _ else _) = _
        rw [if_pos h2, if_neg s3]
    · rw [enx] at h2 P2
      refine ⟨fun h => absurd (P2.2.2.1.symm.trans h) (nI_ne1 (by omega)), fun _ => ?_⟩
      refine q0 (nx t n b) ?_ σ2 p2 (by omega) P2
      unfold pLine; rw [ek]
      show (if _ then _ else _) = _
      rw [if_neg h2]
  refine hX _ _ _ _ _ _ _ ?_
  refine g_has_59 hT hP hp (fun w1 σ1 h1 => ?_) (fun w1 σ1 h1 => ?_)
  · rw [hb] at w1 h1
    refine ⟨fun h => absurd h (by decide +kernel), fun _ => ?_⟩
    exact kind 0 _ σ1 (by omega) (by decide) w1 (by rw [pW, if_pos w1]) h1
  rw [hb] at w1 h1
  refine ⟨fun _ => ?_, fun h => absurd rfl h⟩
  refine hX _ _ _ _ _ _ _ ?_
  refine g_has_60 hT h1 hs (fun w2 σ2 h2 => ?_) (fun w2 σ2 h2 => ?_)
  · rw [hbs] at w2 h2
    refine ⟨fun h => absurd h (by decide +kernel), fun _ => ?_⟩
    exact kind 1 _ σ2 (by omega) (by decide) w2 (by rw [pW, if_neg w1, pW, if_pos w2]) h2
  rw [hbs] at w2 h2
  refine ⟨fun _ => ?_, fun h => absurd rfl h⟩
  refine hX _ _ _ _ _ _ _ ?_
  refine g_has_61 hT h2 hs (fun w3 σ3 h3 => ?_) (fun w3 σ3 h3 => ?_)
  · rw [hbs] at w3 h3
    refine ⟨fun h => absurd h (by decide +kernel), fun _ => ?_⟩
    exact kind 2 _ σ3 (by omega) (by decide) w3 (by rw [pW, if_neg w1, pW, if_neg w2, pW, if_pos w3]) h3
  rw [hbs] at w3 h3
  refine ⟨fun _ => ?_, fun h => absurd rfl h⟩
  refine hX _ _ _ _ _ _ _ ?_
  refine hX _ _ _ _ _ _ _ ?_
  refine ⟨fun h => absurd rfl h, fun _ => ?_⟩
  refine g_wrong h3.2.1 h3 ?_
  intro σ4 h4
  refine q0 b ?_ σ4 b (by omega) h4
  unfold pLine
  rw [pW, if_neg w1, pW, if_neg w2, pW, if_neg w3, pW]
end MLW
