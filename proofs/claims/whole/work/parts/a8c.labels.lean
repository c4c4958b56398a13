/-! THE LAW'S LABELS, 2 -/
section LLS
variable {N mc ms i c n : Nat} {f : Nat → Int32} {Q : mPst} {X : mJt} {W : mSg}
set_option maxRecDepth 100000 in
theorem ll_21 (hX : LX N f mc ms Q X) (hK : LK X i c n) (hI : IV W) (hi : i + 6 ≤ N) (hN : N < 2 ^ 30) (hc : c + 10 ≤ mc) (hn : n + 60 ≤ ms) : X 1444 (lloc i) [] shL W c n := by
  refine hX _ _ _ _ _ _ _ ?_
  refine ⟨vI hi hN 1 (by omega), ?_⟩
  refine hX _ _ _ _ _ _ _ ?_
  refine lc_v (shl := sh_9) (rg := [(0, 176)]) rfl (rc0 _) (rgX [_]) ckX (rvX [_]) rfl (b1 hc (by decide +kernel)) (b1 hn (by decide +kernel)) ?_
  refine lg_classes hI (fun o s' V hD => ?_)
  obtain ⟨hp, ans, rfl, hm⟩ := hD
  refine mloc_i hp ?_
  refine hX _ _ _ _ _ _ _ ?_
  refine ⟨vI hi hN 1 (by omega), ?_⟩
  refine hX _ _ _ _ _ _ _ ?_
  refine lc_v (shl := sh_10) (rg := [(176, 14)]) rfl (rc1 _) (rgM [_]) ckM (rvM [_]) rfl (b2 hc (by decide +kernel)) (b2 hn (by decide +kernel)) ?_
  refine DM.ap hm mbX (fun σm' hJ => ?_)
  refine mloc_i pre10 ?_
  refine hX _ _ _ _ _ _ _ ?_
  refine ⟨fun _ => ?_, fun z => absurd rfl z⟩
  exact hK _ _ _ (ivd hJ) (b2 (Nat.le_refl _) (by decide +kernel)) (b2 (Nat.le_refl _) (by decide +kernel))
set_option maxRecDepth 100000 in
theorem ll_22 (hX : LX N f mc ms Q X) (hK : LK X i c n) (hI : IV W) (hi : i + 6 ≤ N) (hN : N < 2 ^ 30) (hc : c + 10 ≤ mc) (hn : n + 60 ≤ ms) : X 1469 (lloc i) [] shL W c n := by
  refine hX _ _ _ _ _ _ _ ?_
  refine ⟨vI hi hN 1 (by omega), ?_⟩
  refine ⟨vI hi hN 2 (by omega), ?_⟩
  refine hX _ _ _ _ _ _ _ ?_
  refine lc_s (shl := sh_9_J) (rg := [(0, 176), (190, 1)]) rfl (rgH [_, _]) ckH (rvH [_, _]) rfl (b1 hc (by decide +kernel)) (b1 hn (by decide +kernel)) ?_
  refine h_classOf (ivh hI) (fun κ σ' hP => ?_)
  obtain ⟨ans, V, k2, hV, hA, hm⟩ := hP
  refine mloc_i pre9J ?_
  refine hX _ _ _ _ _ _ _ ?_
  refine ⟨vI hi hN 1 (by omega), ?_⟩
  refine ⟨vI hi hN 2 (by omega), ?_⟩
  refine hX _ _ _ _ _ _ _ ?_
  refine lc_v (shl := sh_10) (rg := [(176, 14)]) rfl (rc1 _) (rgM [_, _]) ckM (rvM [_, _]) rfl (b2 hc (by decide +kernel)) (b2 hn (by decide +kernel)) ?_
  refine hm.ap mbH (fun σm' b t0 tb hJ => ?_)
  refine mloc_i pre10 ?_
  refine hX _ _ _ _ _ _ _ ?_
  refine hX _ _ _ _ _ _ _ ?_
  refine lc_v (shl := sh_10) (rg := [(176, 14)]) rfl (rc1 _) (rgM []) ckM (rvM []) rfl (b3 hc (by decide +kernel)) (b3 hn (by decide +kernel)) ?_
  refine g_thrown ?_
  refine mloc_i pre10 ?_
  refine hX _ _ _ _ _ _ _ ?_
  refine ⟨fun _ => ?_, fun z => absurd t0 z⟩
  refine hX _ _ _ _ _ _ _ ?_
  refine ⟨fun _ => ?_, fun z => ⟨vpo, fun _ => ?_, fun z2 => absurd (lcq (hA (k00 k2 z)) (tb (k00 k2 z))) z2⟩⟩
  · refine hX _ _ _ _ _ _ _ ?_
    exact hK _ _ _ (ivf hV hJ) (b3 (Nat.le_refl _) (by decide +kernel)) (b3 (Nat.le_refl _) (by decide +kernel))
  · refine hX _ _ _ _ _ _ _ ?_
    exact hK _ _ _ (ivf hV hJ) (b3 (Nat.le_refl _) (by decide +kernel)) (b3 (Nat.le_refl _) (by decide +kernel))
set_option maxRecDepth 100000 in
theorem ll_23 (hX : LX N f mc ms Q X) (hK : LK X i c n) (hI : IV W) (hi : i + 6 ≤ N) (hN : N < 2 ^ 30) (hc : c + 10 ≤ mc) (hn : n + 60 ≤ ms) : X 1537 (lloc i) [] shL W c n := by
  refine hX _ _ _ _ _ _ _ ?_
  refine ⟨vI hi hN 1 (by omega), ?_⟩
  refine ⟨vI hi hN 2 (by omega), ?_⟩
  refine hX _ _ _ _ _ _ _ ?_
  refine lc_s (shl := sh_9_J) (rg := [(0, 176), (190, 1)]) rfl (rgH [_, _]) ckH (rvH [_, _]) rfl (b1 hc (by decide +kernel)) (b1 hn (by decide +kernel)) ?_
  refine h_held (ivh hI) (fun κ σ' hP => ?_)
  obtain ⟨ans, V, k2, hV, hA, hm⟩ := hP
  refine mloc_i pre9J ?_
  refine hX _ _ _ _ _ _ _ ?_
  refine ⟨vI hi hN 1 (by omega), ?_⟩
  refine ⟨vI hi hN 2 (by omega), ?_⟩
  refine hX _ _ _ _ _ _ _ ?_
  refine lc_v (shl := sh_10) (rg := [(176, 14)]) rfl (rc1 _) (rgM [_, _]) ckM (rvM [_, _]) rfl (b2 hc (by decide +kernel)) (b2 hn (by decide +kernel)) ?_
  refine hm.ap mbH (fun σm' b t0 tb hJ => ?_)
  refine mloc_i pre10 ?_
  refine hX _ _ _ _ _ _ _ ?_
  refine hX _ _ _ _ _ _ _ ?_
  refine lc_v (shl := sh_10) (rg := [(176, 14)]) rfl (rc1 _) (rgM []) ckM (rvM []) rfl (b3 hc (by decide +kernel)) (b3 hn (by decide +kernel)) ?_
  refine g_thrown ?_
  refine mloc_i pre10 ?_
  refine hX _ _ _ _ _ _ _ ?_
  refine ⟨fun _ => ?_, fun z => absurd t0 z⟩
  refine hX _ _ _ _ _ _ _ ?_
  refine ⟨fun _ => ?_, fun z => ⟨vpo, fun _ => ?_, fun z2 => absurd (lcq (hA (k00 k2 z)) (tb (k00 k2 z))) z2⟩⟩
  · refine hX _ _ _ _ _ _ _ ?_
    exact hK _ _ _ (ivf hV hJ) (b3 (Nat.le_refl _) (by decide +kernel)) (b3 (Nat.le_refl _) (by decide +kernel))
  · refine hX _ _ _ _ _ _ _ ?_
    exact hK _ _ _ (ivf hV hJ) (b3 (Nat.le_refl _) (by decide +kernel)) (b3 (Nat.le_refl _) (by decide +kernel))
set_option maxRecDepth 100000 in
theorem ll_24 (hX : LX N f mc ms Q X) (hK : LK X i c n) (hI : IV W) (hi : i + 6 ≤ N) (hN : N < 2 ^ 30) (hc : c + 10 ≤ mc) (hn : n + 60 ≤ ms) : X 1605 (lloc i) [] shL W c n := by
  refine hX _ _ _ _ _ _ _ ?_
  refine hX _ _ _ _ _ _ _ ?_
  refine lc_v (shl := sh_9) (rg := [(0, 176)]) rfl (rc0 _) (rgX []) ckX (rvX []) rfl (b1 hc (by decide +kernel)) (b1 hn (by decide +kernel)) ?_
  refine lg_fewest hI (fun o s' V hD => ?_)
  obtain ⟨hp, ans, rfl, hm⟩ := hD
  refine mloc_i hp ?_
  refine hX _ _ _ _ _ _ _ ?_
  refine hX _ _ _ _ _ _ _ ?_
  refine lc_v (shl := sh_10) (rg := [(176, 14)]) rfl (rc1 _) (rgM []) ckM (rvM []) rfl (b2 hc (by decide +kernel)) (b2 hn (by decide +kernel)) ?_
  refine DM.ap hm mbX (fun σm' hJ => ?_)
  refine mloc_i pre10 ?_
  refine hX _ _ _ _ _ _ _ ?_
  refine ⟨fun _ => ?_, fun z => absurd rfl z⟩
  exact hK _ _ _ (ivd hJ) (b2 (Nat.le_refl _) (by decide +kernel)) (b2 (Nat.le_refl _) (by decide +kernel))
set_option maxRecDepth 100000 in
theorem ll_25 (hX : LX N f mc ms Q X) (hK : LK X i c n) (hI : IV W) (hi : i + 6 ≤ N) (hN : N < 2 ^ 30) (hc : c + 10 ≤ mc) (hn : n + 60 ≤ ms) : X 1618 (lloc i) [] shL W c n := by
  refine hX _ _ _ _ _ _ _ ?_
  refine ⟨vI hi hN 1 (by omega), ?_⟩
  refine ⟨vI hi hN 2 (by omega), ?_⟩
  refine hX _ _ _ _ _ _ _ ?_
  refine lc_s (shl := sh_9_J) (rg := [(0, 176), (190, 1)]) rfl (rgH [_, _]) ckH (rvH [_, _]) rfl (b1 hc (by decide +kernel)) (b1 hn (by decide +kernel)) ?_
  refine h_clean (ivh hI) (fun κ σ' hP => ?_)
  obtain ⟨ans, V, k2, hV, hA, hm⟩ := hP
  refine mloc_i pre9J ?_
  refine hX _ _ _ _ _ _ _ ?_
  refine ⟨vI hi hN 1 (by omega), ?_⟩
  refine ⟨vI hi hN 2 (by omega), ?_⟩
  refine hX _ _ _ _ _ _ _ ?_
  refine lc_v (shl := sh_10) (rg := [(176, 14)]) rfl (rc1 _) (rgM [_, _]) ckM (rvM [_, _]) rfl (b2 hc (by decide +kernel)) (b2 hn (by decide +kernel)) ?_
  refine hm.ap mbH (fun σm' b t0 tb hJ => ?_)
  refine mloc_i pre10 ?_
  refine hX _ _ _ _ _ _ _ ?_
  refine hX _ _ _ _ _ _ _ ?_
  refine lc_v (shl := sh_10) (rg := [(176, 14)]) rfl (rc1 _) (rgM []) ckM (rvM []) rfl (b3 hc (by decide +kernel)) (b3 hn (by decide +kernel)) ?_
  refine g_thrown ?_
  refine mloc_i pre10 ?_
  refine hX _ _ _ _ _ _ _ ?_
  refine ⟨fun _ => ?_, fun z => absurd t0 z⟩
  refine hX _ _ _ _ _ _ _ ?_
  refine ⟨fun _ => ?_, fun z => ⟨vpo, fun _ => ?_, fun z2 => absurd (lcq (hA (k00 k2 z)) (tb (k00 k2 z))) z2⟩⟩
  · refine hX _ _ _ _ _ _ _ ?_
    exact hK _ _ _ (ivf hV hJ) (b3 (Nat.le_refl _) (by decide +kernel)) (b3 (Nat.le_refl _) (by decide +kernel))
  · refine hX _ _ _ _ _ _ _ ?_
    exact hK _ _ _ (ivf hV hJ) (b3 (Nat.le_refl _) (by decide +kernel)) (b3 (Nat.le_refl _) (by decide +kernel))
set_option maxRecDepth 100000 in
theorem ll_26 (hX : LX N f mc ms Q X) (hK : LK X i c n) (hI : IV W) (hi : i + 6 ≤ N) (hN : N < 2 ^ 30) (hc : c + 10 ≤ mc) (hn : n + 60 ≤ ms) : X 1686 (lloc i) [] shL W c n := by
  refine hX _ _ _ _ _ _ _ ?_
  refine hX _ _ _ _ _ _ _ ?_
  refine lc_s (shl := sh_9_J) (rg := [(0, 176), (190, 1)]) rfl (rgH []) ckH (rvH []) rfl (b1 hc (by decide +kernel)) (b1 hn (by decide +kernel)) ?_
  refine h_round (ivh hI) (fun κ σ' hP => ?_)
  obtain ⟨ans, V, k2, hV, hA, hm⟩ := hP
  refine mloc_i pre9J ?_
  refine hX _ _ _ _ _ _ _ ?_
  refine hX _ _ _ _ _ _ _ ?_
  refine lc_v (shl := sh_10) (rg := [(176, 14)]) rfl (rc1 _) (rgM []) ckM (rvM []) rfl (b2 hc (by decide +kernel)) (b2 hn (by decide +kernel)) ?_
  refine hm.ap mbH (fun σm' b t0 tb hJ => ?_)
  refine mloc_i pre10 ?_
  refine hX _ _ _ _ _ _ _ ?_
  refine hX _ _ _ _ _ _ _ ?_
  refine lc_v (shl := sh_10) (rg := [(176, 14)]) rfl (rc1 _) (rgM []) ckM (rvM []) rfl (b3 hc (by decide +kernel)) (b3 hn (by decide +kernel)) ?_
  refine g_thrown ?_
  refine mloc_i pre10 ?_
  refine hX _ _ _ _ _ _ _ ?_
  refine ⟨fun _ => ?_, fun z => absurd t0 z⟩
  refine hX _ _ _ _ _ _ _ ?_
  refine ⟨fun _ => ?_, fun z => ⟨vpo, fun _ => ?_, fun z2 => absurd (lcq (hA (k00 k2 z)) (tb (k00 k2 z))) z2⟩⟩
  · refine hX _ _ _ _ _ _ _ ?_
    exact hK _ _ _ (ivf hV hJ) (b3 (Nat.le_refl _) (by decide +kernel)) (b3 (Nat.le_refl _) (by decide +kernel))
  · refine hX _ _ _ _ _ _ _ ?_
    exact hK _ _ _ (ivf hV hJ) (b3 (Nat.le_refl _) (by decide +kernel)) (b3 (Nat.le_refl _) (by decide +kernel))
set_option maxRecDepth 100000 in
theorem ll_27 (hX : LX N f mc ms Q X) (hK : LK X i c n) (hI : IV W) (hi : i + 6 ≤ N) (hN : N < 2 ^ 30) (hc : c + 10 ≤ mc) (hn : n + 60 ≤ ms) : X 1730 (lloc i) [] shL W c n := by
  refine hX _ _ _ _ _ _ _ ?_
  refine ⟨vI hi hN 1 (by omega), ?_⟩
  refine hX _ _ _ _ _ _ _ ?_
  refine lc_s (shl := sh_9_J) (rg := [(0, 176), (190, 1)]) rfl (rgH [_]) ckH (rvH [_]) rfl (b1 hc (by decide +kernel)) (b1 hn (by decide +kernel)) ?_
  refine h_trips (ivh hI) (fun κ σ' hP => ?_)
  obtain ⟨ans, V, k2, hV, hA, hm⟩ := hP
  refine mloc_i pre9J ?_
  refine hX _ _ _ _ _ _ _ ?_
  refine ⟨vI hi hN 1 (by omega), ?_⟩
  refine hX _ _ _ _ _ _ _ ?_
  refine lc_v (shl := sh_10) (rg := [(176, 14)]) rfl (rc1 _) (rgM [_]) ckM (rvM [_]) rfl (b2 hc (by decide +kernel)) (b2 hn (by decide +kernel)) ?_
  refine hm.ap mbH (fun σm' b t0 tb hJ => ?_)
  refine mloc_i pre10 ?_
  refine hX _ _ _ _ _ _ _ ?_
  refine hX _ _ _ _ _ _ _ ?_
  refine lc_v (shl := sh_10) (rg := [(176, 14)]) rfl (rc1 _) (rgM []) ckM (rvM []) rfl (b3 hc (by decide +kernel)) (b3 hn (by decide +kernel)) ?_
  refine g_thrown ?_
  refine mloc_i pre10 ?_
  refine hX _ _ _ _ _ _ _ ?_
  refine ⟨fun _ => ?_, fun z => absurd t0 z⟩
  refine hX _ _ _ _ _ _ _ ?_
  refine ⟨fun _ => ?_, fun z => ⟨vpo, fun _ => ?_, fun z2 => absurd (lcq (hA (k00 k2 z)) (tb (k00 k2 z))) z2⟩⟩
  · refine hX _ _ _ _ _ _ _ ?_
    exact hK _ _ _ (ivf hV hJ) (b3 (Nat.le_refl _) (by decide +kernel)) (b3 (Nat.le_refl _) (by decide +kernel))
  · refine hX _ _ _ _ _ _ _ ?_
    exact hK _ _ _ (ivf hV hJ) (b3 (Nat.le_refl _) (by decide +kernel)) (b3 (Nat.le_refl _) (by decide +kernel))
set_option maxRecDepth 100000 in
theorem ll_28 (hX : LX N f mc ms Q X) (hK : LK X i c n) (hI : IV W) (hi : i + 6 ≤ N) (hN : N < 2 ^ 30) (hc : c + 10 ≤ mc) (hn : n + 60 ≤ ms) : X 1786 (lloc i) [] shL W c n := by
  refine hX _ _ _ _ _ _ _ ?_
  refine hX _ _ _ _ _ _ _ ?_
  refine lc_v (shl := sh_9) (rg := [(0, 176)]) rfl (rc0 _) (rgX []) ckX (rvX []) rfl (b1 hc (by decide +kernel)) (b1 hn (by decide +kernel)) ?_
  refine lg_worth hI (fun o s' V hD => ?_)
  obtain ⟨hp, ans, rfl, hm⟩ := hD
  refine mloc_i hp ?_
  refine hX _ _ _ _ _ _ _ ?_
  refine hX _ _ _ _ _ _ _ ?_
  refine lc_v (shl := sh_10) (rg := [(176, 14)]) rfl (rc1 _) (rgM []) ckM (rvM []) rfl (b2 hc (by decide +kernel)) (b2 hn (by decide +kernel)) ?_
  refine DM.ap hm mbX (fun σm' hJ => ?_)
  refine mloc_i pre10 ?_
  refine hX _ _ _ _ _ _ _ ?_
  refine ⟨fun _ => ?_, fun z => absurd rfl z⟩
  exact hK _ _ _ (ivd hJ) (b2 (Nat.le_refl _) (by decide +kernel)) (b2 (Nat.le_refl _) (by decide +kernel))
set_option maxRecDepth 100000 in
theorem ll_29 (hX : LX N f mc ms Q X) (hK : LK X i c n) (hI : IV W) (hi : i + 6 ≤ N) (hN : N < 2 ^ 30) (hc : c + 10 ≤ mc) (hn : n + 60 ≤ ms) : X 1799 (lloc i) [] shL W c n := by
  refine hX _ _ _ _ _ _ _ ?_
  refine hX _ _ _ _ _ _ _ ?_
  refine lc_v (shl := sh_9) (rg := [(0, 176)]) rfl (rc0 _) (rgX []) ckX (rvX []) rfl (b1 hc (by decide +kernel)) (b1 hn (by decide +kernel)) ?_
  refine lg_serves hI (fun o s' V hD => ?_)
  obtain ⟨hp, ans, rfl, hm⟩ := hD
  refine mloc_i hp ?_
  refine hX _ _ _ _ _ _ _ ?_
  refine hX _ _ _ _ _ _ _ ?_
  refine lc_v (shl := sh_10) (rg := [(176, 14)]) rfl (rc1 _) (rgM []) ckM (rvM []) rfl (b2 hc (by decide +kernel)) (b2 hn (by decide +kernel)) ?_
  refine DM.ap hm mbX (fun σm' hJ => ?_)
  refine mloc_i pre10 ?_
  refine hX _ _ _ _ _ _ _ ?_
  refine ⟨fun _ => ?_, fun z => absurd rfl z⟩
  exact hK _ _ _ (ivd hJ) (b2 (Nat.le_refl _) (by decide +kernel)) (b2 (Nat.le_refl _) (by decide +kernel))
set_option maxRecDepth 100000 in
theorem ll_30 (hX : LX N f mc ms Q X) (hK : LK X i c n) (hI : IV W) (hi : i + 6 ≤ N) (hN : N < 2 ^ 30) (hc : c + 10 ≤ mc) (hn : n + 60 ≤ ms) : X 1812 (lloc i) [] shL W c n := by
  refine hX _ _ _ _ _ _ _ ?_
  refine ⟨vI hi hN 1 (by omega), ?_⟩
  refine ⟨vI hi hN 2 (by omega), ?_⟩
  refine ⟨vI hi hN 3 (by omega), ?_⟩
  refine ⟨vI hi hN 4 (by omega), ?_⟩
  refine hX _ _ _ _ _ _ _ ?_
  refine lc_s (shl := sh_9_J) (rg := [(0, 176), (190, 1)]) rfl (rgH [_, _, _, _]) ckH (rvH [_, _, _, _]) rfl (b1 hc (by decide +kernel)) (b1 hn (by decide +kernel)) ?_
  refine h_blend (ivh hI) (fun κ σ' hP => ?_)
  obtain ⟨ans, V, k2, hV, hA, hm⟩ := hP
  refine mloc_i pre9J ?_
  refine hX _ _ _ _ _ _ _ ?_
  refine ⟨vI hi hN 1 (by omega), ?_⟩
  refine ⟨vI hi hN 2 (by omega), ?_⟩
  refine ⟨vI hi hN 3 (by omega), ?_⟩
  refine ⟨vI hi hN 4 (by omega), ?_⟩
  refine hX _ _ _ _ _ _ _ ?_
  refine lc_v (shl := sh_10) (rg := [(176, 14)]) rfl (rc1 _) (rgM [_, _, _, _]) ckM (rvM [_, _, _, _]) rfl (b2 hc (by decide +kernel)) (b2 hn (by decide +kernel)) ?_
  refine hm.ap mbH (fun σm' b t0 tb hJ => ?_)
  refine mloc_i pre10 ?_
  refine hX _ _ _ _ _ _ _ ?_
  refine hX _ _ _ _ _ _ _ ?_
  refine lc_v (shl := sh_10) (rg := [(176, 14)]) rfl (rc1 _) (rgM []) ckM (rvM []) rfl (b3 hc (by decide +kernel)) (b3 hn (by decide +kernel)) ?_
  refine g_thrown ?_
  refine mloc_i pre10 ?_
  refine hX _ _ _ _ _ _ _ ?_
  refine ⟨fun _ => ?_, fun z => absurd t0 z⟩
  refine hX _ _ _ _ _ _ _ ?_
  refine ⟨fun _ => ?_, fun z => ⟨vpo, fun _ => ?_, fun z2 => absurd (lcq (hA (k00 k2 z)) (tb (k00 k2 z))) z2⟩⟩
  · refine hX _ _ _ _ _ _ _ ?_
    exact hK _ _ _ (ivf hV hJ) (b3 (Nat.le_refl _) (by decide +kernel)) (b3 (Nat.le_refl _) (by decide +kernel))
  · refine hX _ _ _ _ _ _ _ ?_
    exact hK _ _ _ (ivf hV hJ) (b3 (Nat.le_refl _) (by decide +kernel)) (b3 (Nat.le_refl _) (by decide +kernel))
set_option maxRecDepth 100000 in
theorem ll_31 (hX : LX N f mc ms Q X) (hK : LK X i c n) (hI : IV W) (hi : i + 6 ≤ N) (hN : N < 2 ^ 30) (hc : c + 10 ≤ mc) (hn : n + 60 ≤ ms) : X 1904 (lloc i) [] shL W c n := by
  refine hX _ _ _ _ _ _ _ ?_
  refine hX _ _ _ _ _ _ _ ?_
  refine lc_s (shl := sh_9_J) (rg := [(0, 176), (190, 1)]) rfl (rgH []) ckH (rvH []) rfl (b1 hc (by decide +kernel)) (b1 hn (by decide +kernel)) ?_
  refine h_from (ivh hI) (fun κ σ' hP => ?_)
  obtain ⟨ans, V, k2, hV, hA, hm⟩ := hP
  refine mloc_i pre9J ?_
  refine hX _ _ _ _ _ _ _ ?_
  refine hX _ _ _ _ _ _ _ ?_
  refine lc_v (shl := sh_10) (rg := [(176, 14)]) rfl (rc1 _) (rgM []) ckM (rvM []) rfl (b2 hc (by decide +kernel)) (b2 hn (by decide +kernel)) ?_
  refine hm.ap mbH (fun σm' b t0 tb hJ => ?_)
  refine mloc_i pre10 ?_
  refine hX _ _ _ _ _ _ _ ?_
  refine hX _ _ _ _ _ _ _ ?_
  refine lc_v (shl := sh_10) (rg := [(176, 14)]) rfl (rc1 _) (rgM []) ckM (rvM []) rfl (b3 hc (by decide +kernel)) (b3 hn (by decide +kernel)) ?_
  refine g_thrown ?_
  refine mloc_i pre10 ?_
  refine hX _ _ _ _ _ _ _ ?_
  refine ⟨fun _ => ?_, fun z => absurd t0 z⟩
  refine hX _ _ _ _ _ _ _ ?_
  refine ⟨fun _ => ?_, fun z => ⟨vpo, fun _ => ?_, fun z2 => absurd (lcq (hA (k00 k2 z)) (tb (k00 k2 z))) z2⟩⟩
  · refine hX _ _ _ _ _ _ _ ?_
    exact hK _ _ _ (ivf hV hJ) (b3 (Nat.le_refl _) (by decide +kernel)) (b3 (Nat.le_refl _) (by decide +kernel))
  · refine hX _ _ _ _ _ _ _ ?_
    exact hK _ _ _ (ivf hV hJ) (b3 (Nat.le_refl _) (by decide +kernel)) (b3 (Nat.le_refl _) (by decide +kernel))
end LLS
