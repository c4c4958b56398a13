/-! THE MODEL: a day -/
theorem b_32767 : ∀ i, i < 32 → bt (nI 32767) i = decide (i < 15) := by decide +kernel
theorem dw_eq (x : Int32) : (x.toUInt32 >>> ((nI 16).toUInt32 &&& Int32.toUInt32 31)).toInt32 &&& nI 32767 = sDw x := by
  unfold sDw
  refine b_ext (fun i hi => ?_)
  rw [b_and, b_and, b_ushr 16 (by omega), b_sshr 16 (by omega) x hi, b_32767 i hi]
  by_cases h : i < 15
  · rw [if_pos (by omega)]
  · rw [decide_eq_false h, Bool.and_false, Bool.and_false]
theorem sAbs_n (x : Int32) : sAbs (-x) = sAbs x := by
  unfold sAbs
  have hc : (0 : Int32).toInt = 0 := by decide +kernel
  by_cases h : 0 ≤ x
  · rw [if_pos h]
    by_cases h2 : 0 ≤ -x
    · rw [if_pos h2]
      have e : x = 0 := by
        apply Int32.toInt_inj.mp
        have a1 := Int32.le_iff_toInt_le.mp h
        have a2 := Int32.le_iff_toInt_le.mp h2
        rw [Int32.toInt_neg] at a2
        have a3 := Int32.toInt_lt x
        rw [hc] at a1 a2 ⊢
        rw [Int.bmod_eq_of_le (by omega) (by omega)] at a2
        omega
      rw [e]; rfl
    · rw [if_neg h2, Int32.zero_sub, Int32.neg_neg]
  · rw [if_neg h]
    by_cases h2 : 0 ≤ -x
    · rw [if_pos h2, Int32.zero_sub]
    · rw [if_neg h2]
      have e : -x = x := by
        have a1 : x.toInt < 0 := by
          have := Int32.lt_iff_toInt_lt.mp (Int32.not_le.mp h)
          rw [hc] at this; exact this
        have a2 : (-x).toInt < 0 := by
          have := Int32.lt_iff_toInt_lt.mp (Int32.not_le.mp h2)
          rw [hc] at this; exact this
        apply Int32.toInt_inj.mp
        have a3 := Int32.le_toInt x
        rw [Int32.toInt_neg] at a2 ⊢
        by_cases e : x.toInt = -2147483648
        · rw [e]; decide +kernel
        · rw [Int.bmod_eq_of_le (by omega) (by omega)] at a2
          omega
      rw [e]
theorem sWay_comm {m : Nat → Int32} {s o : Option Nat} : sWay m s o = sWay m o s := by
  unfold sWay
  rw [← sAbs_n (sX m s - sX m o), ← sAbs_n (sY m s - sY m o), Int32.neg_sub, Int32.neg_sub]
section MDA
variable {d : Nat} {σ0 σ : mSg} {f : Nat → Int32} {Q : mPst} {ls : List lLn} {n nc ns nd : Nat}
theorem g_unloadsW {s : Nat} {x : Int32} (hs : s < 7) (hW : MW σ0 f σ) (hq : ∀ σ', MW σ0 (sFe f s x 6) σ' → Q (.inl none) sh_10 σ') : mD (d + 2) 137 [.ref 0, .int (nI s), .int x] sh_10 σ Q := by
  have h := g_unloads (d := d) (σ := σ) (f := f) (n := x) hs (hq _ (hW.mk2 _))
  rw [hW.eq] at h
  exact h
theorem g_unloadsE {s : Nat} {x x' : Int32} (ex : x' = x) (hs : s < 7) (hW : MW σ0 f σ) (hq : ∀ σ', MW σ0 (sFe f s x 6) σ' → Q (.inl none) sh_10 σ') : mD (d + 2) 137 [.ref 0, .int (nI s), .int x'] sh_10 σ Q := by
  subst ex
  exact g_unloadsW hs hW hq
theorem g_logsW {b c e x : Int32} (hW : MW σ0 f σ) (hq : ∀ σ', MW σ0 (sLog f (f 10) b c e x) σ' → Q (.inl none) sh_10 σ') : mD (d + 2) 136 [.ref 0, .int b, .int c, .int e, .int x] sh_10 σ Q := by
  have h := g_logs (d := d) (σ := σ) (f := f) (b := b) (c := c) (e := e) (n := x) (hq _ (hW.mk2 _))
  rw [hW.eq] at h
  exact h
theorem g_logsE {b c e x x' : Int32} (ex : x' = x) (hW : MW σ0 f σ) (hq : ∀ σ', MW σ0 (sLog f (f 10) b c e x) σ' → Q (.inl none) sh_10 σ') : mD (d + 2) 136 [.ref 0, .int b, .int c, .int e, .int x'] sh_10 σ Q := by
  subst ex
  exact g_logsW hW hq
theorem g_heapedE {g : Nat} {v : Int32} (hv : v = nI g) (h1 : 1 ≤ g) (h2 : g < 7) (hq : Q (.inl (some (.int (σ 1 (13 + g))))) sh_10 σ) : mD (d + 1) 89 [.ref 0, .int v] sh_10 σ Q := by
  subst hv
  exact g_heaped h1 h2 hq
theorem g_halvesW {g : Nat} (h1 : 1 ≤ g) (h2 : g < 7) (hW : MW σ0 f σ) (hq : ∀ σ', MW σ0 (sHv f g) σ' → Q (.inl none) sh_10 σ') : mD (d + 1) 142 [.ref 0, .int (nI g)] sh_10 σ Q := by
  have h := g_halves (d := d) (σ := σ) (f := f) h1 h2 (hq _ (hW.mk2 _))
  rw [hW.eq] at h
  exact h
theorem g_drawW (hW : MW σ0 f σ) (hq : ∀ σ', MW σ0 (upd f 13 (sStep (f 13))) σ' → Q (.inl (some (.int (sRm (sDw (sStep (f 13))))))) sh_10 σ') : mD (d + 1) 135 [.ref 0, .int (nI 100)] sh_10 σ Q := by
  have h0 := hq _ (hW.mk2 _)
  unfold sRm at h0
  rw [← dw_eq] at h0
  have h := g_draw (d := d) (σ := σ) (f := f) (n := nI 100) (by decide +kernel) h0
  rw [hW.eq] at h
  exact h
theorem MW.put (hW : MW σ0 f σ) {k : Nat} {x : Int32} : MW σ0 (upd f k x) (mput σ 1 k x) := by
  have h := hW.mk2 (upd f k x)
  rw [← mM_put, hW.eq] at h
  exact h
theorem g_isFilled {k lo hi : Nat} {what : Int32} (hk : k < 6) (hlo : f (93 + 5 * k) = nI lo) (hhi : f (93 + 5 * k + 1) = nI hi) (h1 : 1 ≤ lo) (h2 : hi ≤ 6) (h3 : lo ≤ hi) (hW : MW σ0 f σ) (hq : ∀ σ', MW σ0 (sSt f k lo hi what) σ' → Q (.inl none) sh_10 σ') : mD (d + 3) 141 [.ref 0, .int (nI k), .int what] sh_10 σ Q := by
  refine ⟨rfl, fun X hX => ?_⟩
  have loop : ∀ j i σ1, i + j = hi + 1 - lo → MW σ0 (sTk f hi (f (93 + 5 * k + 2)) i).1 σ1 → X 15 [some (.ref 0), some (.int (nI k)), some (.int what), some (.int (sTk f hi (f (93 + 5 * k + 2)) i).2), some (.int (nI hi - nI i)), none] [] sh_10 σ1 0 0 := by
    intro j
    induction j with
    | zero =>
      intro i σ1 hi9 hW1
      have ei : i = hi + 1 - lo := by omega
      have eg : nI hi - nI i = nI lo - nI 1 := by
        rw [nI_sub (by omega), nI_sub (by omega)]; congr 1; omega
      refine hX _ _ _ _ _ _ _ ?_
      refine g_ofDeal (w := 0) hk (by omega) ?_
      have e0 : σ1 1 (93 + 5 * k) = nI lo := by rw [hW1.1, sTk_off (by omega) h2 i (by omega), hlo]
      refine ⟨fun _ => ?_, fun h => ?_⟩
      · refine hX _ _ _ _ _ _ _ ?_
        refine ⟨vp_in_nI (n := 9) (by omega) (by omega), ?_⟩
        refine g_ofDeal (w := 2) hk (by omega) ?_
        refine g_ofDeal (w := 3) hk (by omega) ?_
        refine g_lesser ?_
        refine ⟨vp_in_nI (n := 9) (by omega) (by omega), ?_⟩
        have ek : nI 93 + nI 5 * nI k + nI 4 = nI (93 + 5 * k + 4) := by rw [nI_mul, nI_add, nI_add]
        refine ⟨vin ek (by omega) (by omega), ?_⟩
        have w0 : MW σ0 (upd (sTk f hi (f (93 + 5 * k + 2)) i).1 9 (sMin (nI 9999) ((sTk f hi (f (93 + 5 * k + 2)) i).1 9 + (sTk f hi (f (93 + 5 * k + 2)) i).1 (93 + 5 * k + 2) * (sTk f hi (f (93 + 5 * k + 2)) i).1 (93 + 5 * k + 3)))) (mput σ1 1 9 (sMin (nI 9999) (σ1 1 9 + σ1 1 (93 + 5 * k + 2) * σ1 1 (93 + 5 * k + 3)))) := by
          have h := hW1.put (k := 9) (x := sMin (nI 9999) ((sTk f hi (f (93 + 5 * k + 2)) i).1 9 + (sTk f hi (f (93 + 5 * k + 2)) i).1 (93 + 5 * k + 2) * (sTk f hi (f (93 + 5 * k + 2)) i).1 (93 + 5 * k + 3)))
          rw [← hW1.1] at h
          rw [← hW1.1]
          exact h
        have w1 := w0.put (k := (nI 93 + nI 5 * nI k + nI 4).toNatClampNeg) (x := nI 0)
        refine g_ofDeal (w := 2) hk (by omega) ?_
        refine g_logsE (congrFun w1.1 (93 + 5 * k + 2)) w1 ?_
        intro σ3 w3
        refine hq σ3 ?_
        rw [clN ek (by omega)] at w3
        unfold sSt
        rw [← ei]
        exact w3
      · exfalso
        have h : ¬ nI hi - nI i < σ1 1 (93 + 5 * k) := h
        rw [e0, eg, nI_sub h1] at h
        exact h (nI_lt (by omega) (by omega))
    | succ j ih =>
      intro i σ1 hi9 hW1
      have eg : nI hi - nI i = nI (hi - i) := nI_sub (by omega)
      have e0 : σ1 1 (93 + 5 * k) = nI lo := by rw [hW1.1, sTk_off (by omega) h2 i (by omega), hlo]
      refine hX _ _ _ _ _ _ _ ?_
      refine g_ofDeal (w := 0) hk (by omega) ?_
      refine ⟨fun h => ?_, fun _ => ?_⟩
      · exfalso
        have h : nI hi - nI i < σ1 1 (93 + 5 * k) := h
        rw [e0, eg] at h
        exact nI_nlt (by omega) (by omega) h
      · have ew : nI 14 + (nI hi - nI i) - nI 1 = nI (13 + (hi - i)) := by rw [eg, nI_add, nI_sub (by omega)]; congr 1; omega
        refine g_heapedE eg (by omega) (by omega) ?_
        refine g_lesser ?_
        refine ⟨vin ew (by omega) (by omega), vin ew (by omega) (by omega), ?_⟩
        have eF : σ1 1 (13 + (hi - i)) = (sTk f hi (f (93 + 5 * k + 2)) i).1 (13 + (hi - i)) := by rw [hW1.1]
        have w2 : MW σ0 (sTk f hi (f (93 + 5 * k + 2)) (i + 1)).1 (mput σ1 1 (nI 14 + (nI hi - nI i) - nI 1).toNatClampNeg (σ1 1 (nI 14 + (nI hi - nI i) - nI 1).toNatClampNeg - sMin (sTk f hi (f (93 + 5 * k + 2)) i).2 (σ1 1 (13 + (hi - i))))) := by
          rw [clN ew (by omega), eF]
          exact hW1.put
        have h9 := ih (i + 1) _ (by omega) w2
        rw [show nI hi - nI (i + 1) = nI hi - nI i - nI 1 by rw [← nI_add, Int32.sub_sub], show (sTk f hi (f (93 + 5 * k + 2)) (i + 1)).2 = (sTk f hi (f (93 + 5 * k + 2)) i).2 - sMin (sTk f hi (f (93 + 5 * k + 2)) i).2 ((sTk f hi (f (93 + 5 * k + 2)) i).1 (13 + (hi - i))) from rfl, ← eF] at h9
        exact h9
  refine hX _ _ _ _ _ _ _ ?_
  refine g_ofDeal (w := 2) hk (by omega) ?_
  refine g_ofDeal (w := 1) hk (by omega) ?_
  have h9 := loop (hi + 1 - lo) 0 σ (by omega) hW
  rw [show nI hi - nI 0 = σ 1 (93 + 5 * k + 1) by rw [hW.1, hhi, nI_sub (by omega), Nat.sub_zero]] at h9
  have e2 : (sTk f hi (f (93 + 5 * k + 2)) 0).2 = σ 1 (93 + 5 * k + 2) := by rw [hW.1]; rfl
  rw [e2] at h9
  exact h9
end MDA
