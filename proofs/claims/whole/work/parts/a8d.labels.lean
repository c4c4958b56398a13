/-! THE LAW'S LABELS, 3 -/
section LLS
variable {N mc ms i c n : Nat} {f : Nat → Int32} {Q : mPst} {X : mJt} {W : mSg}
set_option maxRecDepth 100000 in
theorem ll_32 (hX : LX N f mc ms Q X) (hK : LK X i c n) (hI : IV W) (hi : i + 6 ≤ N) (hN : N < 2 ^ 30) (hc : c + 10 ≤ mc) (hn : n + 60 ≤ ms) : X 1948 (lloc i) [] shL W c n := by
  refine hX _ _ _ _ _ _ _ ?_
  refine hX _ _ _ _ _ _ _ ?_
  refine lc_s (shl := sh_9_J) (rg := [(0, 176), (190, 1)]) rfl (rgH []) ckH (rvH []) rfl (b1 hc (by decide +kernel)) (b1 hn (by decide +kernel)) ?_
  refine h_likely (ivh hI) (fun κ σ' hP => ?_)
  obtain ⟨ans, V, k2, hV, hA, hm⟩ := hP
  refine mloc_i pre9J ?_
  refine hX _ _ _ _ _ _ _ ?_
  refine hX _ _ _ _ _ _ _ ?_
  refine lc_v (shl := sh_10) (rg := [(176, 14)]) rfl (rc1 _) (rgM []) ckM (rvM []) rfl (b2 hc (by decide +kernel)) (b2 hn (by decide +kernel)) ?_
  refine hm.ap mbH (fun σm' b t0 tb hJ => ?_)
  refine mloc_i pre10 ?_
  refine hX _ _ _ _ _ _ _ ?_
  refine hX _ _ _ _ _ _ _ ?_
  refine lc_v (shl := sh_10) (rg := [(176, 14)]) rfl (rc1 _) (rgM []) ckM (rvM []) rfl (b3 hc (by decide +kernel)) (b3 hn (by decide +kernel)) ?_
  refine g_thrown ?_
  refine mloc_i pre10 ?_
  refine hX _ _ _ _ _ _ _ ?_
  refine ⟨fun _ => ?_, fun z => absurd t0 z⟩
  refine hX _ _ _ _ _ _ _ ?_
  refine ⟨fun _ => ?_, fun z => ⟨vpo, fun _ => ?_, fun z2 => absurd (lcq (hA (k00 k2 z)) (tb (k00 k2 z))) z2⟩⟩
  · refine hX _ _ _ _ _ _ _ ?_
    exact hK _ _ _ (ivf hV hJ) (b3 (Nat.le_refl _) (by decide +kernel)) (b3 (Nat.le_refl _) (by decide +kernel))
  · refine hX _ _ _ _ _ _ _ ?_
    exact hK _ _ _ (ivf hV hJ) (b3 (Nat.le_refl _) (by decide +kernel)) (b3 (Nat.le_refl _) (by decide +kernel))
set_option maxRecDepth 100000 in
theorem ll_33 (hX : LX N f mc ms Q X) (hK : LK X i c n) (hI : IV W) (hi : i + 6 ≤ N) (hN : N < 2 ^ 30) (hc : c + 10 ≤ mc) (hn : n + 60 ≤ ms) : X 1992 (lloc i) [] shL W c n := by
  refine hX _ _ _ _ _ _ _ ?_
  refine hX _ _ _ _ _ _ _ ?_
  refine lc_s (shl := sh_9_J) (rg := [(0, 176), (190, 1)]) rfl (rgH []) ckH (rvH []) rfl (b1 hc (by decide +kernel)) (b1 hn (by decide +kernel)) ?_
  refine h_ask (ivh hI) (fun κ σ' hP => ?_)
  obtain ⟨ans, V, k2, hV, hA, hm⟩ := hP
  refine mloc_i pre9J ?_
  refine hX _ _ _ _ _ _ _ ?_
  refine hX _ _ _ _ _ _ _ ?_
  refine lc_v (shl := sh_10) (rg := [(176, 14)]) rfl (rc1 _) (rgM []) ckM (rvM []) rfl (b2 hc (by decide +kernel)) (b2 hn (by decide +kernel)) ?_
  refine hm.ap mbH (fun σm' b t0 tb hJ => ?_)
  refine mloc_i pre10 ?_
  refine hX _ _ _ _ _ _ _ ?_
  refine hX _ _ _ _ _ _ _ ?_
  refine lc_v (shl := sh_10) (rg := [(176, 14)]) rfl (rc1 _) (rgM []) ckM (rvM []) rfl (b3 hc (by decide +kernel)) (b3 hn (by decide +kernel)) ?_
  refine g_thrown ?_
  refine mloc_i pre10 ?_
  refine hX _ _ _ _ _ _ _ ?_
  refine ⟨fun _ => ?_, fun z => absurd t0 z⟩
  refine hX _ _ _ _ _ _ _ ?_
  refine ⟨fun _ => ?_, fun z => ⟨vpo, fun _ => ?_, fun z2 => absurd (lcq (hA (k00 k2 z)) (tb (k00 k2 z))) z2⟩⟩
  · refine hX _ _ _ _ _ _ _ ?_
    exact hK _ _ _ (ivf hV hJ) (b3 (Nat.le_refl _) (by decide +kernel)) (b3 (Nat.le_refl _) (by decide +kernel))
  · refine hX _ _ _ _ _ _ _ ?_
    exact hK _ _ _ (ivf hV hJ) (b3 (Nat.le_refl _) (by decide +kernel)) (b3 (Nat.le_refl _) (by decide +kernel))
set_option maxRecDepth 100000 in
theorem ll_34 (hX : LX N f mc ms Q X) (hK : LK X i c n) (hI : IV W) (hi : i + 6 ≤ N) (hN : N < 2 ^ 30) (hc : c + 10 ≤ mc) (hn : n + 60 ≤ ms) : X 2036 (lloc i) [] shL W c n := by
  have main : ∀ (u : Int32) (bo : Bool), u = (if bo = true then nI 1 else nI 0) → (f (nI i + nI 1).toNatClampNeg = 0 → u = nI 0) → (¬ f (nI i + nI 1).toNatClampNeg = 0 → u = nI 1) → X 2051 (lloc i) (.int u :: .ref 0 :: []) shL W c n := by
    intro u bo hu h0 h1
    refine hX _ _ _ _ _ _ _ ?_
    refine hX _ _ _ _ _ _ _ ?_
    refine lc_s (shl := sh_9_J) (rg := [(0, 176), (190, 1)]) rfl (rgH [_]) ckH (rvH [_]) rfl (b1 hc (by decide +kernel)) (b1 hn (by decide +kernel)) ?_
    refine h_meshes (ivh hI) hu (fun κ σ' hP => ?_)
    obtain ⟨ans, V, k2, hV, hA, hm⟩ := hP
    refine mloc_i pre9J ?_
    have tl : X 2072 [some (.ref 1201), some (.ref 0), some (.ref 176), some (.ref 190), some (.int (nI i)), some (.int (nI κ)), none] (.int u :: .ref 176 :: []) shL (mback [(0, 176), (190, 1)] W σ') (c + (mi 369).1) (n + (mi 369).2.1) := by
      refine hX _ _ _ _ _ _ _ ?_
      refine lc_v (shl := sh_10) (rg := [(176, 14)]) rfl (rc1 _) (rgM [_]) ckM (rvM [_]) rfl (b2 hc (by decide +kernel)) (b2 hn (by decide +kernel)) ?_
      refine hm.ap mbH (fun σm' b t0 tb hJ => ?_)
      refine mloc_i pre10 ?_
      refine hX _ _ _ _ _ _ _ ?_
      refine hX _ _ _ _ _ _ _ ?_
      refine lc_v (shl := sh_10) (rg := [(176, 14)]) rfl (rc1 _) (rgM []) ckM (rvM []) rfl (b3 hc (by decide +kernel)) (b3 hn (by decide +kernel)) ?_
      refine g_thrown ?_
      refine mloc_i pre10 ?_
      refine hX _ _ _ _ _ _ _ ?_
      refine ⟨fun _ => ?_, fun z => absurd t0 z⟩
      refine hX _ _ _ _ _ _ _ ?_
      refine ⟨fun _ => ?_, fun z => ⟨vpo, fun _ => ?_, fun z2 => absurd (lcq (hA (k00 k2 z)) (tb (k00 k2 z))) z2⟩⟩
      · refine hX _ _ _ _ _ _ _ ?_
        exact hK _ _ _ (ivf hV hJ) (b3 (Nat.le_refl _) (by decide +kernel)) (b3 (Nat.le_refl _) (by decide +kernel))
      · refine hX _ _ _ _ _ _ _ ?_
        exact hK _ _ _ (ivf hV hJ) (b3 (Nat.le_refl _) (by decide +kernel)) (b3 (Nat.le_refl _) (by decide +kernel))
    refine hX _ _ _ _ _ _ _ ?_
    refine ⟨vI hi hN 1 (by omega), ?_⟩
    refine ⟨fun z => ?_, fun z => ?_⟩
    · have e := h0 z
      subst e
      refine hX _ _ _ _ _ _ _ ?_
      exact tl
    · have e := h1 z
      subst e
      exact tl
  refine hX _ _ _ _ _ _ _ ?_
  refine ⟨vI hi hN 1 (by omega), ?_⟩
  refine ⟨fun z => ?_, fun z => ?_⟩
  · refine hX _ _ _ _ _ _ _ ?_
    exact main (nI 0) false rfl (fun _ => rfl) (fun z2 => absurd z z2)
  · exact main (nI 1) true rfl (fun z2 => absurd z2 z) (fun _ => rfl)
set_option maxRecDepth 100000 in
theorem ll_35 (hX : LX N f mc ms Q X) (hK : LK X i c n) (hI : IV W) (hi : i + 6 ≤ N) (hN : N < 2 ^ 30) (hc : c + 10 ≤ mc) (hn : n + 60 ≤ ms) : X 2108 (lloc i) [] shL W c n := by
  refine hX _ _ _ _ _ _ _ ?_
  refine hX _ _ _ _ _ _ _ ?_
  refine lc_s (shl := sh_9_J) (rg := [(0, 176), (190, 1)]) rfl (rgH []) ckH (rvH []) rfl (b1 hc (by decide +kernel)) (b1 hn (by decide +kernel)) ?_
  refine h_sift (ivh hI) (fun κ σ' hP => ?_)
  obtain ⟨ans, V, k2, hV, hA, hm⟩ := hP
  refine mloc_i pre9J ?_
  refine hX _ _ _ _ _ _ _ ?_
  refine hX _ _ _ _ _ _ _ ?_
  refine lc_v (shl := sh_10) (rg := [(176, 14)]) rfl (rc1 _) (rgM []) ckM (rvM []) rfl (b2 hc (by decide +kernel)) (b2 hn (by decide +kernel)) ?_
  refine hm.ap mbH (fun σm' b t0 tb hJ => ?_)
  refine mloc_i pre10 ?_
  refine hX _ _ _ _ _ _ _ ?_
  refine hX _ _ _ _ _ _ _ ?_
  refine lc_v (shl := sh_10) (rg := [(176, 14)]) rfl (rc1 _) (rgM []) ckM (rvM []) rfl (b3 hc (by decide +kernel)) (b3 hn (by decide +kernel)) ?_
  refine g_thrown ?_
  refine mloc_i pre10 ?_
  refine hX _ _ _ _ _ _ _ ?_
  refine ⟨fun _ => ?_, fun z => absurd t0 z⟩
  refine hX _ _ _ _ _ _ _ ?_
  refine ⟨fun _ => ?_, fun z => ⟨vpo, fun _ => ?_, fun z2 => absurd (lcq (hA (k00 k2 z)) (tb (k00 k2 z))) z2⟩⟩
  · refine hX _ _ _ _ _ _ _ ?_
    exact hK _ _ _ (ivf hV hJ) (b3 (Nat.le_refl _) (by decide +kernel)) (b3 (Nat.le_refl _) (by decide +kernel))
  · refine hX _ _ _ _ _ _ _ ?_
    exact hK _ _ _ (ivf hV hJ) (b3 (Nat.le_refl _) (by decide +kernel)) (b3 (Nat.le_refl _) (by decide +kernel))
set_option maxRecDepth 100000 in
theorem ll_36 (hX : LX N f mc ms Q X) (hK : LK X i c n) (hI : IV W) (hi : i + 6 ≤ N) (hN : N < 2 ^ 30) (hc : c + 10 ≤ mc) (hn : n + 60 ≤ ms) : X 2152 (lloc i) [] shL W c n := by
  refine hX _ _ _ _ _ _ _ ?_
  refine hX _ _ _ _ _ _ _ ?_
  refine lc_v (shl := sh_9) (rg := [(0, 176)]) rfl (rc0 _) (rgX []) ckX (rvX []) rfl (b1 hc (by decide +kernel)) (b1 hn (by decide +kernel)) ?_
  refine lg_ends hI (fun o s' V hD => ?_)
  obtain ⟨hp, ans, rfl, hm⟩ := hD
  refine mloc_i hp ?_
  refine hX _ _ _ _ _ _ _ ?_
  refine hX _ _ _ _ _ _ _ ?_
  refine lc_v (shl := sh_10) (rg := [(176, 14)]) rfl (rc1 _) (rgM []) ckM (rvM []) rfl (b2 hc (by decide +kernel)) (b2 hn (by decide +kernel)) ?_
  refine DM.ap hm mbX (fun σm' hJ => ?_)
  refine mloc_i pre10 ?_
  refine hX _ _ _ _ _ _ _ ?_
  refine ⟨fun _ => ?_, fun z => absurd rfl z⟩
  exact hK _ _ _ (ivd hJ) (b2 (Nat.le_refl _) (by decide +kernel)) (b2 (Nat.le_refl _) (by decide +kernel))
set_option maxRecDepth 100000 in
theorem ll_37 (hX : LX N f mc ms Q X) (hK : LK X i c n) (hI : IV W) (hi : i + 6 ≤ N) (hN : N < 2 ^ 30) (hc : c + 10 ≤ mc) (hn : n + 60 ≤ ms) : X 2165 (lloc i) [] shL W c n := by
  refine hX _ _ _ _ _ _ _ ?_
  refine hX _ _ _ _ _ _ _ ?_
  refine lc_v (shl := sh_9) (rg := [(0, 176)]) rfl (rc0 _) (rgX []) ckX (rvX []) rfl (b1 hc (by decide +kernel)) (b1 hn (by decide +kernel)) ?_
  refine lg_side hI (fun o s' V hD => ?_)
  obtain ⟨hp, ans, rfl, hm⟩ := hD
  refine mloc_i hp ?_
  refine hX _ _ _ _ _ _ _ ?_
  refine hX _ _ _ _ _ _ _ ?_
  refine lc_v (shl := sh_10) (rg := [(176, 14)]) rfl (rc1 _) (rgM []) ckM (rvM []) rfl (b2 hc (by decide +kernel)) (b2 hn (by decide +kernel)) ?_
  refine DM.ap hm mbX (fun σm' hJ => ?_)
  refine mloc_i pre10 ?_
  refine hX _ _ _ _ _ _ _ ?_
  refine ⟨fun _ => ?_, fun z => absurd rfl z⟩
  exact hK _ _ _ (ivd hJ) (b2 (Nat.le_refl _) (by decide +kernel)) (b2 (Nat.le_refl _) (by decide +kernel))
set_option maxRecDepth 100000 in
theorem ll_38 (hX : LX N f mc ms Q X) (hK : LK X i c n) (hI : IV W) (hi : i + 6 ≤ N) (hN : N < 2 ^ 30) (hc : c + 10 ≤ mc) (hn : n + 60 ≤ ms) : X 2178 (lloc i) [] shL W c n := by
  refine hX _ _ _ _ _ _ _ ?_
  refine ⟨vI hi hN 1 (by omega), ?_⟩
  refine hX _ _ _ _ _ _ _ ?_
  refine lc_s (shl := sh_9_J) (rg := [(0, 176), (190, 1)]) rfl (rgH [_]) ckH (rvH [_]) rfl (b1 hc (by decide +kernel)) (b1 hn (by decide +kernel)) ?_
  refine h_pairs (ivh hI) (fun κ σ' hP => ?_)
  obtain ⟨ans, V, k2, hV, hA, hm⟩ := hP
  refine mloc_i pre9J ?_
  refine hX _ _ _ _ _ _ _ ?_
  refine ⟨vI hi hN 1 (by omega), ?_⟩
  refine hX _ _ _ _ _ _ _ ?_
  refine lc_v (shl := sh_10) (rg := [(176, 14)]) rfl (rc1 _) (rgM [_]) ckM (rvM [_]) rfl (b2 hc (by decide +kernel)) (b2 hn (by decide +kernel)) ?_
  refine hm.ap mbH (fun σm' b t0 tb hJ => ?_)
  refine mloc_i pre10 ?_
  refine hX _ _ _ _ _ _ _ ?_
  refine hX _ _ _ _ _ _ _ ?_
  refine lc_v (shl := sh_10) (rg := [(176, 14)]) rfl (rc1 _) (rgM []) ckM (rvM []) rfl (b3 hc (by decide +kernel)) (b3 hn (by decide +kernel)) ?_
  refine g_thrown ?_
  refine mloc_i pre10 ?_
  refine hX _ _ _ _ _ _ _ ?_
  refine ⟨fun _ => ?_, fun z => absurd t0 z⟩
  refine hX _ _ _ _ _ _ _ ?_
  refine ⟨fun _ => ?_, fun z => ⟨vpo, fun _ => ?_, fun z2 => absurd (lcq (hA (k00 k2 z)) (tb (k00 k2 z))) z2⟩⟩
  · refine hX _ _ _ _ _ _ _ ?_
    exact hK _ _ _ (ivf hV hJ) (b3 (Nat.le_refl _) (by decide +kernel)) (b3 (Nat.le_refl _) (by decide +kernel))
  · refine hX _ _ _ _ _ _ _ ?_
    exact hK _ _ _ (ivf hV hJ) (b3 (Nat.le_refl _) (by decide +kernel)) (b3 (Nat.le_refl _) (by decide +kernel))
set_option maxRecDepth 100000 in
theorem ll_39 (hX : LX N f mc ms Q X) (hK : LK X i c n) (hI : IV W) (hi : i + 6 ≤ N) (hN : N < 2 ^ 30) (hc : c + 10 ≤ mc) (hn : n + 60 ≤ ms) : X 2234 (lloc i) [] shL W c n := by
  refine hX _ _ _ _ _ _ _ ?_
  refine ⟨vI hi hN 1 (by omega), ?_⟩
  refine ⟨vI hi hN 2 (by omega), ?_⟩
  refine hX _ _ _ _ _ _ _ ?_
  refine lc_s (shl := sh_9_J) (rg := [(0, 176), (190, 1)]) rfl (rgH [_, _]) ckH (rvH [_, _]) rfl (b1 hc (by decide +kernel)) (b1 hn (by decide +kernel)) ?_
  refine h_share (ivh hI) (fun κ σ' hP => ?_)
  obtain ⟨ans, V, k2, hV, hA, hm⟩ := hP
  refine mloc_i pre9J ?_
  refine hX _ _ _ _ _ _ _ ?_
  refine ⟨vI hi hN 1 (by omega), ?_⟩
  refine ⟨vI hi hN 2 (by omega), ?_⟩
  refine hX _ _ _ _ _ _ _ ?_
  refine lc_v (shl := sh_10) (rg := [(176, 14)]) rfl (rc1 _) (rgM [_, _]) ckM (rvM [_, _]) rfl (b2 hc (by decide +kernel)) (b2 hn (by decide +kernel)) ?_
  refine hm.ap mbH (fun σm' b t0 tb hJ => ?_)
  refine mloc_i pre10 ?_
  refine hX _ _ _ _ _ _ _ ?_
  refine hX _ _ _ _ _ _ _ ?_
  refine lc_v (shl := sh_10) (rg := [(176, 14)]) rfl (rc1 _) (rgM []) ckM (rvM []) rfl (b3 hc (by decide +kernel)) (b3 hn (by decide +kernel)) ?_
  refine g_thrown ?_
  refine mloc_i pre10 ?_
  refine hX _ _ _ _ _ _ _ ?_
  refine ⟨fun _ => ?_, fun z => absurd t0 z⟩
  refine hX _ _ _ _ _ _ _ ?_
  refine ⟨fun _ => ?_, fun z => ⟨vpo, fun _ => ?_, fun z2 => absurd (lcq (hA (k00 k2 z)) (tb (k00 k2 z))) z2⟩⟩
  · refine hX _ _ _ _ _ _ _ ?_
    exact hK _ _ _ (ivf hV hJ) (b3 (Nat.le_refl _) (by decide +kernel)) (b3 (Nat.le_refl _) (by decide +kernel))
  · refine hX _ _ _ _ _ _ _ ?_
    exact hK _ _ _ (ivf hV hJ) (b3 (Nat.le_refl _) (by decide +kernel)) (b3 (Nat.le_refl _) (by decide +kernel))
set_option maxRecDepth 100000 in
theorem ll_40 (hX : LX N f mc ms Q X) (hK : LK X i c n) (hI : IV W) (hi : i + 6 ≤ N) (hN : N < 2 ^ 30) (hc : c + 10 ≤ mc) (hn : n + 60 ≤ ms) : X 2302 (lloc i) [] shL W c n := by
  refine hX _ _ _ _ _ _ _ ?_
  refine ⟨vI hi hN 1 (by omega), ?_⟩
  refine hX _ _ _ _ _ _ _ ?_
  refine lc_s (shl := sh_9_J) (rg := [(0, 176), (190, 1)]) rfl (rgH [_]) ckH (rvH [_]) rfl (b1 hc (by decide +kernel)) (b1 hn (by decide +kernel)) ?_
  refine h_rests (ivh hI) (fun κ σ' hP => ?_)
  obtain ⟨ans, V, k2, hV, hA, hm⟩ := hP
  refine mloc_i pre9J ?_
  refine hX _ _ _ _ _ _ _ ?_
  refine ⟨vI hi hN 1 (by omega), ?_⟩
  refine hX _ _ _ _ _ _ _ ?_
  refine lc_v (shl := sh_10) (rg := [(176, 14)]) rfl (rc1 _) (rgM [_]) ckM (rvM [_]) rfl (b2 hc (by decide +kernel)) (b2 hn (by decide +kernel)) ?_
  refine hm.ap mbH (fun σm' b t0 tb hJ => ?_)
  refine mloc_i pre10 ?_
  refine hX _ _ _ _ _ _ _ ?_
  refine hX _ _ _ _ _ _ _ ?_
  refine lc_v (shl := sh_10) (rg := [(176, 14)]) rfl (rc1 _) (rgM []) ckM (rvM []) rfl (b3 hc (by decide +kernel)) (b3 hn (by decide +kernel)) ?_
  refine g_thrown ?_
  refine mloc_i pre10 ?_
  refine hX _ _ _ _ _ _ _ ?_
  refine ⟨fun _ => ?_, fun z => absurd t0 z⟩
  refine hX _ _ _ _ _ _ _ ?_
  refine ⟨fun _ => ?_, fun z => ⟨vpo, fun _ => ?_, fun z2 => absurd (lcq (hA (k00 k2 z)) (tb (k00 k2 z))) z2⟩⟩
  · refine hX _ _ _ _ _ _ _ ?_
    exact hK _ _ _ (ivf hV hJ) (b3 (Nat.le_refl _) (by decide +kernel)) (b3 (Nat.le_refl _) (by decide +kernel))
  · refine hX _ _ _ _ _ _ _ ?_
    exact hK _ _ _ (ivf hV hJ) (b3 (Nat.le_refl _) (by decide +kernel)) (b3 (Nat.le_refl _) (by decide +kernel))
set_option maxRecDepth 100000 in
theorem ll_41 (hX : LX N f mc ms Q X) (hK : LK X i c n) (hI : IV W) (hi : i + 6 ≤ N) (hN : N < 2 ^ 30) (hc : c + 10 ≤ mc) (hn : n + 60 ≤ ms) : X 2358 (lloc i) [] shL W c n := by
  refine hX _ _ _ _ _ _ _ ?_
  refine ⟨vI hi hN 1 (by omega), ?_⟩
  refine ⟨vI hi hN 2 (by omega), ?_⟩
  refine hX _ _ _ _ _ _ _ ?_
  refine lc_s (shl := sh_9_J) (rg := [(0, 176), (190, 1)]) rfl (rgH [_, _]) ckH (rvH [_, _]) rfl (b1 hc (by decide +kernel)) (b1 hn (by decide +kernel)) ?_
  refine h_odds (ivh hI) (fun κ σ' hP => ?_)
  obtain ⟨ans, V, k2, hV, hA, hm⟩ := hP
  refine mloc_i pre9J ?_
  refine hX _ _ _ _ _ _ _ ?_
  refine ⟨vI hi hN 1 (by omega), ?_⟩
  refine ⟨vI hi hN 2 (by omega), ?_⟩
  refine hX _ _ _ _ _ _ _ ?_
  refine lc_v (shl := sh_10) (rg := [(176, 14)]) rfl (rc1 _) (rgM [_, _]) ckM (rvM [_, _]) rfl (b2 hc (by decide +kernel)) (b2 hn (by decide +kernel)) ?_
  refine hm.ap mbH (fun σm' b t0 tb hJ => ?_)
  refine mloc_i pre10 ?_
  refine hX _ _ _ _ _ _ _ ?_
  refine hX _ _ _ _ _ _ _ ?_
  refine lc_v (shl := sh_10) (rg := [(176, 14)]) rfl (rc1 _) (rgM []) ckM (rvM []) rfl (b3 hc (by decide +kernel)) (b3 hn (by decide +kernel)) ?_
  refine g_thrown ?_
  refine mloc_i pre10 ?_
  refine hX _ _ _ _ _ _ _ ?_
  refine ⟨fun _ => ?_, fun z => absurd t0 z⟩
  refine hX _ _ _ _ _ _ _ ?_
  refine ⟨fun _ => ?_, fun z => ⟨vpo, fun _ => ?_, fun z2 => absurd (lcq (hA (k00 k2 z)) (tb (k00 k2 z))) z2⟩⟩
  · refine hX _ _ _ _ _ _ _ ?_
    exact hK _ _ _ (ivf hV hJ) (b3 (Nat.le_refl _) (by decide +kernel)) (b3 (Nat.le_refl _) (by decide +kernel))
  · refine hX _ _ _ _ _ _ _ ?_
    exact hK _ _ _ (ivf hV hJ) (b3 (Nat.le_refl _) (by decide +kernel)) (b3 (Nat.le_refl _) (by decide +kernel))
set_option maxRecDepth 100000 in
theorem ll_42 (hX : LX N f mc ms Q X) (hK : LK X i c n) (hI : IV W) (hi : i + 6 ≤ N) (hN : N < 2 ^ 30) (hc : c + 10 ≤ mc) (hn : n + 60 ≤ ms) : X 2426 (lloc i) [] shL W c n := by
  refine hX _ _ _ _ _ _ _ ?_
  refine ⟨vI hi hN 1 (by omega), ?_⟩
  refine hX _ _ _ _ _ _ _ ?_
  refine lc_s (shl := sh_9_J) (rg := [(0, 176), (190, 1)]) rfl (rgH [_]) ckH (rvH [_]) rfl (b1 hc (by decide +kernel)) (b1 hn (by decide +kernel)) ?_
  refine h_most (ivh hI) (fun κ σ' hP => ?_)
  obtain ⟨ans, V, k2, hV, hA, hm⟩ := hP
  refine mloc_i pre9J ?_
  refine hX _ _ _ _ _ _ _ ?_
  refine ⟨vI hi hN 1 (by omega), ?_⟩
  refine hX _ _ _ _ _ _ _ ?_
  refine lc_v (shl := sh_10) (rg := [(176, 14)]) rfl (rc1 _) (rgM [_]) ckM (rvM [_]) rfl (b2 hc (by decide +kernel)) (b2 hn (by decide +kernel)) ?_
  refine hm.ap mbH (fun σm' b t0 tb hJ => ?_)
  refine mloc_i pre10 ?_
  refine hX _ _ _ _ _ _ _ ?_
  refine hX _ _ _ _ _ _ _ ?_
  refine lc_v (shl := sh_10) (rg := [(176, 14)]) rfl (rc1 _) (rgM []) ckM (rvM []) rfl (b3 hc (by decide +kernel)) (b3 hn (by decide +kernel)) ?_
  refine g_thrown ?_
  refine mloc_i pre10 ?_
  refine hX _ _ _ _ _ _ _ ?_
  refine ⟨fun _ => ?_, fun z => absurd t0 z⟩
  refine hX _ _ _ _ _ _ _ ?_
  refine ⟨fun _ => ?_, fun z => ⟨vpo, fun _ => ?_, fun z2 => absurd (lcq (hA (k00 k2 z)) (tb (k00 k2 z))) z2⟩⟩
  · refine hX _ _ _ _ _ _ _ ?_
    exact hK _ _ _ (ivf hV hJ) (b3 (Nat.le_refl _) (by decide +kernel)) (b3 (Nat.le_refl _) (by decide +kernel))
  · refine hX _ _ _ _ _ _ _ ?_
    exact hK _ _ _ (ivf hV hJ) (b3 (Nat.le_refl _) (by decide +kernel)) (b3 (Nat.le_refl _) (by decide +kernel))
set_option maxRecDepth 100000 in
theorem ll_43 (hX : LX N f mc ms Q X) (hK : LK X i c n) (hI : IV W) (hi : i + 6 ≤ N) (hN : N < 2 ^ 30) (hc : c + 10 ≤ mc) (hn : n + 60 ≤ ms) : X 2482 (lloc i) [] shL W c n := by
  have main : ∀ (u : Int32) (bo : Bool), u = (if bo = true then nI 1 else nI 0) → (f (nI i + nI 1).toNatClampNeg = 0 → u = nI 0) → (¬ f (nI i + nI 1).toNatClampNeg = 0 → u = nI 1) → X 2497 (lloc i) (.int u :: .ref 0 :: []) shL W c n := by
    intro u bo hu h0 h1
    refine hX _ _ _ _ _ _ _ ?_
    refine lc_v (shl := sh_9) (rg := [(0, 176)]) rfl (rc0 _) (rgX [_]) ckX (rvX [_]) rfl (b1 hc (by decide +kernel)) (b1 hn (by decide +kernel)) ?_
    refine lg_open hI hu (fun o s' V hD => ?_)
    obtain ⟨hp, ans, rfl, hm⟩ := hD
    refine mloc_i hp ?_
    have tl : X 2515 (lloc i) (.int u :: .ref 176 :: [.int ans]) shL (mback [(0, 176)] W V) (c + (mi 44).1) (n + (mi 44).2.1) := by
      refine hX _ _ _ _ _ _ _ ?_
      refine lc_v (shl := sh_10) (rg := [(176, 14)]) rfl (rc1 _) (rgM [_]) ckM (rvM [_]) rfl (b2 hc (by decide +kernel)) (b2 hn (by decide +kernel)) ?_
      refine DM.ap hm mbX (fun σm' hJ => ?_)
      refine mloc_i pre10 ?_
      refine hX _ _ _ _ _ _ _ ?_
      refine ⟨fun _ => ?_, fun z => absurd rfl z⟩
      exact hK _ _ _ (ivd hJ) (b2 (Nat.le_refl _) (by decide +kernel)) (b2 (Nat.le_refl _) (by decide +kernel))
    refine hX _ _ _ _ _ _ _ ?_
    refine ⟨vI hi hN 1 (by omega), ?_⟩
    refine ⟨fun z => ?_, fun z => ?_⟩
    · have e := h0 z
      subst e
      refine hX _ _ _ _ _ _ _ ?_
      exact tl
    · have e := h1 z
      subst e
      exact tl
  refine hX _ _ _ _ _ _ _ ?_
  refine ⟨vI hi hN 1 (by omega), ?_⟩
  refine ⟨fun z => ?_, fun z => ?_⟩
  · refine hX _ _ _ _ _ _ _ ?_
    exact main (nI 0) false rfl (fun _ => rfl) (fun z2 => absurd z z2)
  · exact main (nI 1) true rfl (fun z2 => absurd z2 z) (fun _ => rfl)
end LLS
