/-! THE LAW'S LABELS, 4 -/
section LLS
variable {N mc ms i c n : Nat} {f : Nat → Int32} {Q : mPst} {X : mJt} {W : mSg}
set_option maxRecDepth 100000 in
theorem ll_44 (hX : LX N f mc ms Q X) (hK : LK X i c n) (hI : IV W) (hi : i + 6 ≤ N) (hN : N < 2 ^ 30) (hc : c + 10 ≤ mc) (hn : n + 60 ≤ ms) : X 2523 (lloc i) [] shL W c n := by
  refine hX _ _ _ _ _ _ _ ?_
  refine hX _ _ _ _ _ _ _ ?_
  refine lc_v (shl := sh_9) (rg := [(0, 176)]) rfl (rc0 _) (rgX []) ckX (rvX []) rfl (b1 hc (by decide +kernel)) (b1 hn (by decide +kernel)) ?_
  refine lg_twins hI (fun o s' V hD => ?_)
  obtain ⟨hp, ans, rfl, hm⟩ := hD
  refine mloc_i hp ?_
  refine hX _ _ _ _ _ _ _ ?_
  refine hX _ _ _ _ _ _ _ ?_
  refine lc_v (shl := sh_10) (rg := [(176, 14)]) rfl (rc1 _) (rgM []) ckM (rvM []) rfl (b2 hc (by decide +kernel)) (b2 hn (by decide +kernel)) ?_
  refine DM.ap hm mbX (fun σm' hJ => ?_)
  refine mloc_i pre10 ?_
  refine hX _ _ _ _ _ _ _ ?_
  refine ⟨fun _ => ?_, fun z => absurd rfl z⟩
  exact hK _ _ _ (ivd hJ) (b2 (Nat.le_refl _) (by decide +kernel)) (b2 (Nat.le_refl _) (by decide +kernel))
set_option maxRecDepth 100000 in
theorem ll_45 (hX : LX N f mc ms Q X) (hK : LK X i c n) (hI : IV W) (hi : i + 6 ≤ N) (hN : N < 2 ^ 30) (hc : c + 10 ≤ mc) (hn : n + 60 ≤ ms) : X 2536 (lloc i) [] shL W c n := by
  refine hX _ _ _ _ _ _ _ ?_
  refine ⟨vI hi hN 1 (by omega), ?_⟩
  refine hX _ _ _ _ _ _ _ ?_
  refine lc_s (shl := sh_9_J) (rg := [(0, 176), (190, 1)]) rfl (rgH [_]) ckH (rvH [_]) rfl (b1 hc (by decide +kernel)) (b1 hn (by decide +kernel)) ?_
  refine h_wanted (ivh hI) (fun κ σ' hP => ?_)
  obtain ⟨ans, V, k2, hV, hA, hm⟩ := hP
  refine mloc_i pre9J ?_
  refine hX _ _ _ _ _ _ _ ?_
  refine ⟨vI hi hN 1 (by omega), ?_⟩
  refine hX _ _ _ _ _ _ _ ?_
  refine lc_v (shl := sh_10) (rg := [(176, 14)]) rfl (rc1 _) (rgM [_]) ckM (rvM [_]) rfl (b2 hc (by decide +kernel)) (b2 hn (by decide +kernel)) ?_
  refine hm.ap mbH (fun σm' b t0 tb hJ => ?_)
  refine mloc_i pre10 ?_
  refine hX _ _ _ _ _ _ _ ?_
  refine hX _ _ _ _ _ _ _ ?_
  refine lc_v (shl := sh_10) (rg := [(176, 14)]) rfl (rc1 _) (rgM []) ckM (rvM []) rfl (b3 hc (by decide +kernel)) (b3 hn (by decide +kernel)) ?_
  refine g_thrown ?_
  refine mloc_i pre10 ?_
  refine hX _ _ _ _ _ _ _ ?_
  refine ⟨fun _ => ?_, fun z => absurd t0 z⟩
  refine hX _ _ _ _ _ _ _ ?_
  refine ⟨fun _ => ?_, fun z => ⟨vpo, fun _ => ?_, fun z2 => absurd (lcq (hA (k00 k2 z)) (tb (k00 k2 z))) z2⟩⟩
  · refine hX _ _ _ _ _ _ _ ?_
    exact hK _ _ _ (ivf hV hJ) (b3 (Nat.le_refl _) (by decide +kernel)) (b3 (Nat.le_refl _) (by decide +kernel))
  · refine hX _ _ _ _ _ _ _ ?_
    exact hK _ _ _ (ivf hV hJ) (b3 (Nat.le_refl _) (by decide +kernel)) (b3 (Nat.le_refl _) (by decide +kernel))
set_option maxRecDepth 100000 in
theorem ll_46 (hX : LX N f mc ms Q X) (hK : LK X i c n) (hI : IV W) (hi : i + 6 ≤ N) (hN : N < 2 ^ 30) (hc : c + 10 ≤ mc) (hn : n + 60 ≤ ms) : X 2592 (lloc i) [] shL W c n := by
  refine hX _ _ _ _ _ _ _ ?_
  refine ⟨vI hi hN 1 (by omega), ?_⟩
  refine ⟨vI hi hN 2 (by omega), ?_⟩
  refine hX _ _ _ _ _ _ _ ?_
  refine lc_s (shl := sh_9_J) (rg := [(0, 176), (190, 1)]) rfl (rgH [_, _]) ckH (rvH [_, _]) rfl (b1 hc (by decide +kernel)) (b1 hn (by decide +kernel)) ?_
  refine h_ahead (ivh hI) (fun κ σ' hP => ?_)
  obtain ⟨ans, V, k2, hV, hA, hm⟩ := hP
  refine mloc_i pre9J ?_
  refine hX _ _ _ _ _ _ _ ?_
  refine ⟨vI hi hN 1 (by omega), ?_⟩
  refine ⟨vI hi hN 2 (by omega), ?_⟩
  refine hX _ _ _ _ _ _ _ ?_
  refine lc_v (shl := sh_10) (rg := [(176, 14)]) rfl (rc1 _) (rgM [_, _]) ckM (rvM [_, _]) rfl (b2 hc (by decide +kernel)) (b2 hn (by decide +kernel)) ?_
  refine hm.ap mbH (fun σm' b t0 tb hJ => ?_)
  refine mloc_i pre10 ?_
  refine hX _ _ _ _ _ _ _ ?_
  refine hX _ _ _ _ _ _ _ ?_
  refine lc_v (shl := sh_10) (rg := [(176, 14)]) rfl (rc1 _) (rgM []) ckM (rvM []) rfl (b3 hc (by decide +kernel)) (b3 hn (by decide +kernel)) ?_
  refine g_thrown ?_
  refine mloc_i pre10 ?_
  refine hX _ _ _ _ _ _ _ ?_
  refine ⟨fun _ => ?_, fun z => absurd t0 z⟩
  refine hX _ _ _ _ _ _ _ ?_
  refine ⟨fun _ => ?_, fun z => ⟨vpo, fun _ => ?_, fun z2 => absurd (lcq (hA (k00 k2 z)) (tb (k00 k2 z))) z2⟩⟩
  · refine hX _ _ _ _ _ _ _ ?_
    exact hK _ _ _ (ivf hV hJ) (b3 (Nat.le_refl _) (by decide +kernel)) (b3 (Nat.le_refl _) (by decide +kernel))
  · refine hX _ _ _ _ _ _ _ ?_
    exact hK _ _ _ (ivf hV hJ) (b3 (Nat.le_refl _) (by decide +kernel)) (b3 (Nat.le_refl _) (by decide +kernel))
set_option maxRecDepth 100000 in
theorem ll_47 (hX : LX N f mc ms Q X) (hK : LK X i c n) (hI : IV W) (hi : i + 6 ≤ N) (hN : N < 2 ^ 30) (hc : c + 10 ≤ mc) (hn : n + 60 ≤ ms) : X 2660 (lloc i) [] shL W c n := by
  have main : ∀ (u : Int32) (bo : Bool), u = (if bo = true then nI 1 else nI 0) → (f (nI i + nI 2).toNatClampNeg = 0 → u = nI 0) → (¬ f (nI i + nI 2).toNatClampNeg = 0 → u = nI 1) → X 2681 (lloc i) (.int u :: .int (f (nI i + nI 1).toNatClampNeg) :: .ref 0 :: []) shL W c n := by
    intro u bo hu h0 h1
    refine hX _ _ _ _ _ _ _ ?_
    refine hX _ _ _ _ _ _ _ ?_
    refine lc_s (shl := sh_9_J) (rg := [(0, 176), (190, 1)]) rfl (rgH [_, _]) ckH (rvH [_, _]) rfl (b1 hc (by decide +kernel)) (b1 hn (by decide +kernel)) ?_
    refine h_trial (ivh hI) hu (fun κ σ' hP => ?_)
    obtain ⟨ans, V, k2, hV, hA, hm⟩ := hP
    refine mloc_i pre9J ?_
    have tl : X 2708 [some (.ref 1201), some (.ref 0), some (.ref 176), some (.ref 190), some (.int (nI i)), some (.int (nI κ)), none] (.int u :: .int (f (nI i + nI 1).toNatClampNeg) :: .ref 176 :: []) shL (mback [(0, 176), (190, 1)] W σ') (c + (mi 378).1) (n + (mi 378).2.1) := by
      refine hX _ _ _ _ _ _ _ ?_
      refine lc_v (shl := sh_10) (rg := [(176, 14)]) rfl (rc1 _) (rgM [_, _]) ckM (rvM [_, _]) rfl (b2 hc (by decide +kernel)) (b2 hn (by decide +kernel)) ?_
      refine hm.ap mbH (fun σm' b t0 tb hJ => ?_)
      refine mloc_i pre10 ?_
      refine hX _ _ _ _ _ _ _ ?_
      refine hX _ _ _ _ _ _ _ ?_
      refine lc_v (shl := sh_10) (rg := [(176, 14)]) rfl (rc1 _) (rgM []) ckM (rvM []) rfl (b3 hc (by decide +kernel)) (b3 hn (by decide +kernel)) ?_
      refine g_thrown ?_
      refine mloc_i pre10 ?_
      refine hX _ _ _ _ _ _ _ ?_
      refine ⟨fun _ => ?_, fun z => absurd t0 z⟩
      refine hX _ _ _ _ _ _ _ ?_
      refine ⟨fun _ => ?_, fun z => ⟨vpo, fun _ => ?_, fun z2 => absurd (lcq (hA (k00 k2 z)) (tb (k00 k2 z))) z2⟩⟩
      · refine hX _ _ _ _ _ _ _ ?_
        exact hK _ _ _ (ivf hV hJ) (b3 (Nat.le_refl _) (by decide +kernel)) (b3 (Nat.le_refl _) (by decide +kernel))
      · refine hX _ _ _ _ _ _ _ ?_
        exact hK _ _ _ (ivf hV hJ) (b3 (Nat.le_refl _) (by decide +kernel)) (b3 (Nat.le_refl _) (by decide +kernel))
    refine hX _ _ _ _ _ _ _ ?_
    refine ⟨vI hi hN 1 (by omega), ?_⟩
    refine ⟨vI hi hN 2 (by omega), ?_⟩
    refine ⟨fun z => ?_, fun z => ?_⟩
    · have e := h0 z
      subst e
      refine hX _ _ _ _ _ _ _ ?_
      exact tl
    · have e := h1 z
      subst e
      exact tl
  refine hX _ _ _ _ _ _ _ ?_
  refine ⟨vI hi hN 1 (by omega), ?_⟩
  refine ⟨vI hi hN 2 (by omega), ?_⟩
  refine ⟨fun z => ?_, fun z => ?_⟩
  · refine hX _ _ _ _ _ _ _ ?_
    exact main (nI 0) false rfl (fun _ => rfl) (fun z2 => absurd z z2)
  · exact main (nI 1) true rfl (fun z2 => absurd z2 z) (fun _ => rfl)
set_option maxRecDepth 100000 in
theorem ll_48 (hX : LX N f mc ms Q X) (hK : LK X i c n) (hI : IV W) (hi : i + 6 ≤ N) (hN : N < 2 ^ 30) (hc : c + 10 ≤ mc) (hn : n + 60 ≤ ms) : X 2744 (lloc i) [] shL W c n := by
  have main : ∀ (u : Int32) (bo : Bool), u = (if bo = true then nI 1 else nI 0) → (f (nI i + nI 2).toNatClampNeg = 0 → u = nI 0) → (¬ f (nI i + nI 2).toNatClampNeg = 0 → u = nI 1) → X 2765 (lloc i) (.int u :: .int (f (nI i + nI 1).toNatClampNeg) :: .ref 0 :: []) shL W c n := by
    intro u bo hu h0 h1
    refine hX _ _ _ _ _ _ _ ?_
    refine hX _ _ _ _ _ _ _ ?_
    refine lc_s (shl := sh_9_J) (rg := [(0, 176), (190, 1)]) rfl (rgH [_, _]) ckH (rvH [_, _]) rfl (b1 hc (by decide +kernel)) (b1 hn (by decide +kernel)) ?_
    refine h_span (ivh hI) hu (fun κ σ' hP => ?_)
    obtain ⟨ans, V, k2, hV, hA, hm⟩ := hP
    refine mloc_i pre9J ?_
    have tl : X 2792 [some (.ref 1201), some (.ref 0), some (.ref 176), some (.ref 190), some (.int (nI i)), some (.int (nI κ)), none] (.int u :: .int (f (nI i + nI 1).toNatClampNeg) :: .ref 176 :: []) shL (mback [(0, 176), (190, 1)] W σ') (c + (mi 379).1) (n + (mi 379).2.1) := by
      refine hX _ _ _ _ _ _ _ ?_
      refine lc_v (shl := sh_10) (rg := [(176, 14)]) rfl (rc1 _) (rgM [_, _]) ckM (rvM [_, _]) rfl (b2 hc (by decide +kernel)) (b2 hn (by decide +kernel)) ?_
      refine hm.ap mbH (fun σm' b t0 tb hJ => ?_)
      refine mloc_i pre10 ?_
      refine hX _ _ _ _ _ _ _ ?_
      refine hX _ _ _ _ _ _ _ ?_
      refine lc_v (shl := sh_10) (rg := [(176, 14)]) rfl (rc1 _) (rgM []) ckM (rvM []) rfl (b3 hc (by decide +kernel)) (b3 hn (by decide +kernel)) ?_
      refine g_thrown ?_
      refine mloc_i pre10 ?_
      refine hX _ _ _ _ _ _ _ ?_
      refine ⟨fun _ => ?_, fun z => absurd t0 z⟩
      refine hX _ _ _ _ _ _ _ ?_
      refine ⟨fun _ => ?_, fun z => ⟨vpo, fun _ => ?_, fun z2 => absurd (lcq (hA (k00 k2 z)) (tb (k00 k2 z))) z2⟩⟩
      · refine hX _ _ _ _ _ _ _ ?_
        exact hK _ _ _ (ivf hV hJ) (b3 (Nat.le_refl _) (by decide +kernel)) (b3 (Nat.le_refl _) (by decide +kernel))
      · refine hX _ _ _ _ _ _ _ ?_
        exact hK _ _ _ (ivf hV hJ) (b3 (Nat.le_refl _) (by decide +kernel)) (b3 (Nat.le_refl _) (by decide +kernel))
    refine hX _ _ _ _ _ _ _ ?_
    refine ⟨vI hi hN 1 (by omega), ?_⟩
    refine ⟨vI hi hN 2 (by omega), ?_⟩
    refine ⟨fun z => ?_, fun z => ?_⟩
    · have e := h0 z
      subst e
      refine hX _ _ _ _ _ _ _ ?_
      exact tl
    · have e := h1 z
      subst e
      exact tl
  refine hX _ _ _ _ _ _ _ ?_
  refine ⟨vI hi hN 1 (by omega), ?_⟩
  refine ⟨vI hi hN 2 (by omega), ?_⟩
  refine ⟨fun z => ?_, fun z => ?_⟩
  · refine hX _ _ _ _ _ _ _ ?_
    exact main (nI 0) false rfl (fun _ => rfl) (fun z2 => absurd z z2)
  · exact main (nI 1) true rfl (fun z2 => absurd z2 z) (fun _ => rfl)
set_option maxRecDepth 100000 in
theorem ll_49 (hX : LX N f mc ms Q X) (hK : LK X i c n) (hI : IV W) (hi : i + 6 ≤ N) (hN : N < 2 ^ 30) (hc : c + 10 ≤ mc) (hn : n + 60 ≤ ms) : X 2828 (lloc i) [] shL W c n := by
  have main : ∀ (u : Int32) (bo : Bool), u = (if bo = true then nI 1 else nI 0) → (f (nI i + nI 2).toNatClampNeg = 0 → u = nI 0) → (¬ f (nI i + nI 2).toNatClampNeg = 0 → u = nI 1) → X 2849 (lloc i) (.int u :: .int (f (nI i + nI 1).toNatClampNeg) :: .ref 0 :: []) shL W c n := by
    intro u bo hu h0 h1
    refine hX _ _ _ _ _ _ _ ?_
    refine hX _ _ _ _ _ _ _ ?_
    refine lc_s (shl := sh_9_J) (rg := [(0, 176), (190, 1)]) rfl (rgH [_, _]) ckH (rvH [_, _]) rfl (b1 hc (by decide +kernel)) (b1 hn (by decide +kernel)) ?_
    refine h_led (ivh hI) hu (fun κ σ' hP => ?_)
    obtain ⟨ans, V, k2, hV, hA, hm⟩ := hP
    refine mloc_i pre9J ?_
    have tl : X 2876 [some (.ref 1201), some (.ref 0), some (.ref 176), some (.ref 190), some (.int (nI i)), some (.int (nI κ)), none] (.int u :: .int (f (nI i + nI 1).toNatClampNeg) :: .ref 176 :: []) shL (mback [(0, 176), (190, 1)] W σ') (c + (mi 380).1) (n + (mi 380).2.1) := by
      refine hX _ _ _ _ _ _ _ ?_
      refine lc_v (shl := sh_10) (rg := [(176, 14)]) rfl (rc1 _) (rgM [_, _]) ckM (rvM [_, _]) rfl (b2 hc (by decide +kernel)) (b2 hn (by decide +kernel)) ?_
      refine hm.ap mbH (fun σm' b t0 tb hJ => ?_)
      refine mloc_i pre10 ?_
      refine hX _ _ _ _ _ _ _ ?_
      refine hX _ _ _ _ _ _ _ ?_
      refine lc_v (shl := sh_10) (rg := [(176, 14)]) rfl (rc1 _) (rgM []) ckM (rvM []) rfl (b3 hc (by decide +kernel)) (b3 hn (by decide +kernel)) ?_
      refine g_thrown ?_
      refine mloc_i pre10 ?_
      refine hX _ _ _ _ _ _ _ ?_
      refine ⟨fun _ => ?_, fun z => absurd t0 z⟩
      refine hX _ _ _ _ _ _ _ ?_
      refine ⟨fun _ => ?_, fun z => ⟨vpo, fun _ => ?_, fun z2 => absurd (lcq (hA (k00 k2 z)) (tb (k00 k2 z))) z2⟩⟩
      · refine hX _ _ _ _ _ _ _ ?_
        exact hK _ _ _ (ivf hV hJ) (b3 (Nat.le_refl _) (by decide +kernel)) (b3 (Nat.le_refl _) (by decide +kernel))
      · refine hX _ _ _ _ _ _ _ ?_
        exact hK _ _ _ (ivf hV hJ) (b3 (Nat.le_refl _) (by decide +kernel)) (b3 (Nat.le_refl _) (by decide +kernel))
    refine hX _ _ _ _ _ _ _ ?_
    refine ⟨vI hi hN 1 (by omega), ?_⟩
    refine ⟨vI hi hN 2 (by omega), ?_⟩
    refine ⟨fun z => ?_, fun z => ?_⟩
    · have e := h0 z
      subst e
      refine hX _ _ _ _ _ _ _ ?_
      exact tl
    · have e := h1 z
      subst e
      exact tl
  refine hX _ _ _ _ _ _ _ ?_
  refine ⟨vI hi hN 1 (by omega), ?_⟩
  refine ⟨vI hi hN 2 (by omega), ?_⟩
  refine ⟨fun z => ?_, fun z => ?_⟩
  · refine hX _ _ _ _ _ _ _ ?_
    exact main (nI 0) false rfl (fun _ => rfl) (fun z2 => absurd z z2)
  · exact main (nI 1) true rfl (fun z2 => absurd z2 z) (fun _ => rfl)
set_option maxRecDepth 100000 in
theorem ll_50 (hX : LX N f mc ms Q X) (hK : LK X i c n) (hI : IV W) (hi : i + 6 ≤ N) (hN : N < 2 ^ 30) (hc : c + 10 ≤ mc) (hn : n + 60 ≤ ms) : X 2912 (lloc i) [] shL W c n := by
  refine hX _ _ _ _ _ _ _ ?_
  refine ⟨vI hi hN 1 (by omega), ?_⟩
  refine ⟨vI hi hN 2 (by omega), ?_⟩
  refine hX _ _ _ _ _ _ _ ?_
  refine lc_s (shl := sh_9_J) (rg := [(0, 176), (190, 1)]) rfl (rgH [_, _]) ckH (rvH [_, _]) rfl (b1 hc (by decide +kernel)) (b1 hn (by decide +kernel)) ?_
  refine h_log (ivh hI) (fun κ σ' hP => ?_)
  obtain ⟨ans, V, k2, hV, hA, hm⟩ := hP
  refine mloc_i pre9J ?_
  refine hX _ _ _ _ _ _ _ ?_
  refine ⟨vI hi hN 1 (by omega), ?_⟩
  refine ⟨vI hi hN 2 (by omega), ?_⟩
  refine hX _ _ _ _ _ _ _ ?_
  refine lc_v (shl := sh_10) (rg := [(176, 14)]) rfl (rc1 _) (rgM [_, _]) ckM (rvM [_, _]) rfl (b2 hc (by decide +kernel)) (b2 hn (by decide +kernel)) ?_
  refine hm.ap mbH (fun σm' b t0 tb hJ => ?_)
  refine mloc_i pre10 ?_
  refine hX _ _ _ _ _ _ _ ?_
  refine hX _ _ _ _ _ _ _ ?_
  refine lc_v (shl := sh_10) (rg := [(176, 14)]) rfl (rc1 _) (rgM []) ckM (rvM []) rfl (b3 hc (by decide +kernel)) (b3 hn (by decide +kernel)) ?_
  refine g_thrown ?_
  refine mloc_i pre10 ?_
  refine hX _ _ _ _ _ _ _ ?_
  refine ⟨fun _ => ?_, fun z => absurd t0 z⟩
  refine hX _ _ _ _ _ _ _ ?_
  refine ⟨fun _ => ?_, fun z => ⟨vpo, fun _ => ?_, fun z2 => absurd (lcq (hA (k00 k2 z)) (tb (k00 k2 z))) z2⟩⟩
  · refine hX _ _ _ _ _ _ _ ?_
    exact hK _ _ _ (ivf hV hJ) (b3 (Nat.le_refl _) (by decide +kernel)) (b3 (Nat.le_refl _) (by decide +kernel))
  · refine hX _ _ _ _ _ _ _ ?_
    exact hK _ _ _ (ivf hV hJ) (b3 (Nat.le_refl _) (by decide +kernel)) (b3 (Nat.le_refl _) (by decide +kernel))
set_option maxRecDepth 100000 in
theorem ll_51 (hX : LX N f mc ms Q X) (hK : LK X i c n) (hI : IV W) (hi : i + 6 ≤ N) (hN : N < 2 ^ 30) (hc : c + 10 ≤ mc) (hn : n + 60 ≤ ms) : X 2980 (lloc i) [] shL W c n := by
  refine hX _ _ _ _ _ _ _ ?_
  refine ⟨vI hi hN 1 (by omega), ?_⟩
  refine hX _ _ _ _ _ _ _ ?_
  refine lc_v (shl := sh_9) (rg := [(0, 176)]) rfl (rc0 _) (rgX [_]) ckX (rvX [_]) rfl (b1 hc (by decide +kernel)) (b1 hn (by decide +kernel)) ?_
  refine lg_seed hI (fun o s' V hD => ?_)
  obtain ⟨hp, ans, rfl, hm⟩ := hD
  refine mloc_i hp ?_
  refine hX _ _ _ _ _ _ _ ?_
  refine ⟨vI hi hN 1 (by omega), ?_⟩
  refine hX _ _ _ _ _ _ _ ?_
  refine lc_v (shl := sh_10) (rg := [(176, 14)]) rfl (rc1 _) (rgM [_]) ckM (rvM [_]) rfl (b2 hc (by decide +kernel)) (b2 hn (by decide +kernel)) ?_
  refine DM.ap hm mbX (fun σm' hJ => ?_)
  refine mloc_i pre10 ?_
  refine hX _ _ _ _ _ _ _ ?_
  refine ⟨fun _ => ?_, fun z => absurd rfl z⟩
  exact hK _ _ _ (ivd hJ) (b2 (Nat.le_refl _) (by decide +kernel)) (b2 (Nat.le_refl _) (by decide +kernel))
set_option maxRecDepth 100000 in
theorem ll_52 (hX : LX N f mc ms Q X) (hK : LK X i c n) (hI : IV W) (hi : i + 6 ≤ N) (hN : N < 2 ^ 30) (hc : c + 10 ≤ mc) (hn : n + 60 ≤ ms) : X 3005 (lloc i) [] shL W c n := by
  refine hX _ _ _ _ _ _ _ ?_
  refine hX _ _ _ _ _ _ _ ?_
  refine lc_v (shl := sh_9) (rg := [(0, 176)]) rfl (rc0 _) (rgX []) ckX (rvX []) rfl (b1 hc (by decide +kernel)) (b1 hn (by decide +kernel)) ?_
  refine lg_undo hI (fun o s' V hD => ?_)
  obtain ⟨hp, ans, rfl, hm⟩ := hD
  refine mloc_i hp ?_
  refine hX _ _ _ _ _ _ _ ?_
  refine hX _ _ _ _ _ _ _ ?_
  refine lc_v (shl := sh_10) (rg := [(176, 14)]) rfl (rc1 _) (rgM []) ckM (rvM []) rfl (b2 hc (by decide +kernel)) (b2 hn (by decide +kernel)) ?_
  refine DM.ap hm mbX (fun σm' hJ => ?_)
  refine mloc_i pre10 ?_
  refine hX _ _ _ _ _ _ _ ?_
  refine ⟨fun _ => ?_, fun z => absurd rfl z⟩
  exact hK _ _ _ (ivd hJ) (b2 (Nat.le_refl _) (by decide +kernel)) (b2 (Nat.le_refl _) (by decide +kernel))
set_option maxRecDepth 100000 in
theorem ll_53 (hX : LX N f mc ms Q X) (hK : LK X i c n) (hI : IV W) (hi : i + 6 ≤ N) (hN : N < 2 ^ 30) (hc : c + 10 ≤ mc) (hn : n + 60 ≤ ms) : X 3018 (lloc i) [] shL W c n := by
  refine hX _ _ _ _ _ _ _ ?_
  refine hX _ _ _ _ _ _ _ ?_
  refine lc_v (shl := sh_9) (rg := [(0, 176)]) rfl (rc0 _) (rgX []) ckX (rvX []) rfl (b1 hc (by decide +kernel)) (b1 hn (by decide +kernel)) ?_
  refine lg_image hI (fun o s' V hD => ?_)
  obtain ⟨hp, rfl, hm⟩ := hD
  refine mloc_v hp ?_
  refine hX _ _ _ _ _ _ _ ?_
  refine hX _ _ _ _ _ _ _ ?_
  refine lc_v (shl := sh_10) (rg := [(176, 14)]) rfl (rc1 _) (rgM []) ckM (rvM []) rfl (b2 hc (by decide +kernel)) (b2 hn (by decide +kernel)) ?_
  refine DMv.ap hm mbX (fun σm' hJ => ?_)
  refine mloc_v pre10 ?_
  refine hX _ _ _ _ _ _ _ ?_
  exact hK _ _ _ (ivd hJ) (b2 (Nat.le_refl _) (by decide +kernel)) (b2 (Nat.le_refl _) (by decide +kernel))
set_option maxRecDepth 100000 in
theorem ll_54 (hX : LX N f mc ms Q X) (hK : LK X i c n) (hI : IV W) (hi : i + 6 ≤ N) (hN : N < 2 ^ 30) (hc : c + 10 ≤ mc) (hn : n + 60 ≤ ms) : X 3029 (lloc i) [] shL W c n := by
  refine hX _ _ _ _ _ _ _ ?_
  refine hX _ _ _ _ _ _ _ ?_
  refine lc_v (shl := sh_9) (rg := [(0, 176)]) rfl (rc0 _) (rgX []) ckX (rvX []) rfl (b1 hc (by decide +kernel)) (b1 hn (by decide +kernel)) ?_
  refine lg_back hI (fun o s' V hD => ?_)
  obtain ⟨hp, ans, rfl, hm⟩ := hD
  refine mloc_i hp ?_
  refine hX _ _ _ _ _ _ _ ?_
  refine hX _ _ _ _ _ _ _ ?_
  refine lc_v (shl := sh_10) (rg := [(176, 14)]) rfl (rc1 _) (rgM []) ckM (rvM []) rfl (b2 hc (by decide +kernel)) (b2 hn (by decide +kernel)) ?_
  refine DM.ap hm mbX (fun σm' hJ => ?_)
  refine mloc_i pre10 ?_
  refine hX _ _ _ _ _ _ _ ?_
  refine ⟨fun _ => ?_, fun z => absurd rfl z⟩
  exact hK _ _ _ (ivd hJ) (b2 (Nat.le_refl _) (by decide +kernel)) (b2 (Nat.le_refl _) (by decide +kernel))
set_option maxRecDepth 100000 in
theorem ll_55 (hX : LX N f mc ms Q X) (hK : LK X i c n) (hI : IV W) (hi : i + 6 ≤ N) (hN : N < 2 ^ 30) (hc : c + 10 ≤ mc) (hn : n + 60 ≤ ms) : X 3042 (lloc i) [] shL W c n := by
  refine hX _ _ _ _ _ _ _ ?_
  refine ⟨vI hi hN 1 (by omega), ?_⟩
  refine hX _ _ _ _ _ _ _ ?_
  refine lc_v (shl := sh_9) (rg := [(0, 176)]) rfl (rc0 _) (rgX [_]) ckX (rvX [_]) rfl (b1 hc (by decide +kernel)) (b1 hn (by decide +kernel)) ?_
  refine lg_count hI (fun o s' V hD => ?_)
  obtain ⟨hp, ans, rfl, hm⟩ := hD
  refine mloc_i hp ?_
  refine hX _ _ _ _ _ _ _ ?_
  refine ⟨vI hi hN 1 (by omega), ?_⟩
  refine hX _ _ _ _ _ _ _ ?_
  refine lc_v (shl := sh_10) (rg := [(176, 14)]) rfl (rc1 _) (rgM [_]) ckM (rvM [_]) rfl (b2 hc (by decide +kernel)) (b2 hn (by decide +kernel)) ?_
  refine DM.ap hm mbX (fun σm' hJ => ?_)
  refine mloc_i pre10 ?_
  refine hX _ _ _ _ _ _ _ ?_
  refine ⟨fun _ => ?_, fun z => absurd rfl z⟩
  exact hK _ _ _ (ivd hJ) (b2 (Nat.le_refl _) (by decide +kernel)) (b2 (Nat.le_refl _) (by decide +kernel))
end LLS
