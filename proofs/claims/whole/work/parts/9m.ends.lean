/-! BOTH SIDES: grains that two sifters take from by turns -/
/-- how much more who is on turn has, of j grains from lo on -/
def sLe (m : Nat → Int32) : Nat → Nat → Int32
  | 0, _ => nI 0
  | j + 1, lo => cMx (m (13 + lo) - sLe m j (lo + 1)) (m (13 + (lo + j)) - sLe m j lo)
def sSd (m : Nat → Int32) : Int32 := if m 14 - sLe m 5 2 < m 19 - sLe m 5 1 then nI 1 else nI 0
theorem cMx_sMax (x y : Int32) : cMx x y = sMax x y := by
  unfold cMx sMax
  by_cases h : x < y
  · rw [if_pos h, if_neg (Int32.lt_asymm h)]
  · rw [if_neg h]
    by_cases h2 : y < x
    · rw [if_pos h2]
    · rw [if_neg h2]
      exact Int32.le_antisymm (Int32.not_lt.mp h2) (Int32.not_lt.mp h)
theorem sLe1 {m : Nat → Int32} {lo : Nat} : sLe m 1 lo = m (13 + lo) := by
  show cMx (m (13 + lo) - 0) (m (13 + lo) - 0) = _
  rw [Int32.sub_zero]
  unfold cMx
  rw [if_neg Int32.lt_irrefl]
section CLE
variable {d : Nat} {σ : mSg} {m : Nat → Int32} {Q : mPst}
theorem RYs.hp {g : Nat} (hR : RYs σ m) (h1 : 1 ≤ g) (h2 : g < 7) : σ 11 g = m (13 + g) := RS.get (σ := fun j => σ (mgl [(5, 9)] j)) hR (rqh g h2 h1)
set_option maxRecDepth 100000 in
theorem c_lead (hR : RYs σ m) : ∀ (j d lo : Nat) (x y : Int32) (Q : mPst), 1 ≤ lo → lo + j ≤ 7 → x = nI lo → y = nI (lo + j - 1) → Q (.inl (some (.int (sLe m j lo)))) sh_9 σ → mD (d + j + 1) 70 [.ref 0, .int x, .int y] sh_9 σ Q := by
  intro j
  induction j with
  | zero =>
    intro d lo x y Q h1 h2 hx hy hq
    refine ⟨rfl, fun X hX => ?_⟩
    refine hX _ _ _ _ _ _ _ ?_
    refine b_lt hx (b := 1) rfl (by omega) (by omega) (fun h => by omega) (fun _ => ?_)
    refine b_gt hy (b := 6) rfl (by omega) (by omega) (fun h => by omega) (fun _ => ?_)
    refine b_le hx hy (by omega) (by omega) (fun h => by omega) (fun _ => ?_)
    refine hX _ _ _ _ _ _ _ ?_
    exact hq
  | succ j ih =>
    intro d lo x y Q h1 h2 hx hy hq
    have ex1 : x + nI 1 = nI (lo + 1) := by rw [hx, nI_add]
    have ey1 : y = nI (lo + 1 + j - 1) := by rw [hy, show lo + 1 + j - 1 = lo + (j + 1) - 1 by omega]
    have ey2 : y - nI 1 = nI (lo + j - 1) := by rw [hy, nI_sub (by omega), show lo + (j + 1) - 1 - 1 = lo + j - 1 by omega]
    refine ⟨rfl, fun X hX => ?_⟩
    refine hX _ _ _ _ _ _ _ ?_
    refine b_lt hx (b := 1) rfl (by omega) (by omega) (fun h => by omega) (fun _ => ?_)
    refine b_gt hy (b := 6) rfl (by omega) (by omega) (fun h => by omega) (fun _ => ?_)
    refine b_le hx hy (by omega) (by omega) (fun _ => ?_) (fun h => by omega)
    refine hX _ _ _ _ _ _ _ ?_
    refine ⟨vin hx (by omega) (by omega), ?_⟩
    refine ih d (lo + 1) _ _ _ (by omega) (by omega) ex1 ey1 ?_
    refine ⟨vin hy (by omega) (by omega), ?_⟩
    refine ih d lo _ _ _ h1 (by omega) hx ey2 ?_
    refine qi (Q := Q) ?_ hq
    show sLe m (j + 1) lo = cMx (σ 11 x.toNatClampNeg - sLe m j (lo + 1)) (σ 11 y.toNatClampNeg - sLe m j lo)
    rw [clN hx (by omega), clN hy (by omega), hR.hp h1 (by omega), hR.hp (by omega) (by omega)]
    rfl
set_option maxRecDepth 100000 in
theorem c_yends (hR : RYs σ m) (hq : Q (.inl (some (.int (sLe m 6 1)))) sh_9 σ) : mD (d + 8) 37 [.ref 0] sh_9 σ Q := by
  refine ⟨rfl, fun X hX => ?_⟩
  refine hX _ _ _ _ _ _ _ ?_
  refine c_lead hR 6 d 1 _ _ _ (by omega) (by omega) rfl rfl ?_
  exact hq
set_option maxRecDepth 100000 in
theorem c_yside (hR : RYs σ m) (hq : Q (.inl (some (.int (sSd m)))) sh_9 σ) : mD (d + 7) 38 [.ref 0] sh_9 σ Q := by
  have e1 : σ 11 (nI 1).toNatClampNeg = m 14 := hR.hp (g := 1) (by omega) (by omega)
  have e2 : σ 11 (nI 6).toNatClampNeg = m 19 := hR.hp (g := 6) (by omega) (by omega)
  unfold sSd at hq
  refine ⟨rfl, fun X hX => ?_⟩
  refine hX _ _ _ _ _ _ _ ?_
  refine ⟨vp_in_nI (n := 1) (by omega) (by omega), ?_⟩
  refine c_lead hR 5 d 2 _ _ _ (by omega) (by omega) rfl rfl ?_
  refine ⟨vp_in_nI (n := 6) (by omega) (by omega), ?_⟩
  refine c_lead hR 5 d 1 _ _ _ (by omega) (by omega) rfl rfl ?_
  refine ⟨fun h => ?_, fun h => ?_⟩
  · have h : σ 11 (nI 1).toNatClampNeg - sLe m 5 2 < σ 11 (nI 6).toNatClampNeg - sLe m 5 1 := h
    rw [e1, e2] at h
    rw [if_pos h] at hq
    refine hX _ _ _ _ _ _ _ ?_
    refine hX _ _ _ _ _ _ _ ?_
    exact hq
  · have h : ¬ σ 11 (nI 1).toNatClampNeg - sLe m 5 2 < σ 11 (nI 6).toNatClampNeg - sLe m 5 1 := h
    rw [e1, e2] at h
    rw [if_neg h] at hq
    refine hX _ _ _ _ _ _ _ ?_
    exact hq
end CLE
section MLE
variable {d : Nat} {σ : mSg} {Q : mPst} {n nc ns nd : Nat}
theorem MX.lo {W σ' : mSg} (hW : W = mput σ 0 0 (nI 0)) (h : ∀ c, c < 6 → σ' c = W c) : MX σ (σ 1) (nI 0) σ' := by
  subst hW
  have c0 := h 0 (by omega)
  exact ⟨h 1 (by omega), h 2 (by omega), h 4 (by omega), h 5 (by omega), congrFun c0 0, congrFun c0 3, congrFun c0 6, congrFun c0 8, congrFun c0 12, k15.e (congrFun c0 15)⟩
/-- leads of up to J grains are there, and of J + 1 below L -/
def EN (σ : mSg) (J L : Nat) (W : mSg) : Prop := (∀ c, c ≠ 12 → W c = σ c) ∧ ∀ lo j, 1 ≤ lo → 1 ≤ j → lo + j ≤ 7 → (j ≤ J ∨ (j = J + 1 ∧ lo < L)) → W 12 (7 * lo + (lo + j - 1)) = sLe (σ 1) j lo
theorem EN.put {J L : Nat} {W : mSg} {v : Int32} (h : EN σ J L W) (h2 : L + J ≤ 6) (hv : v = sLe (σ 1) (J + 1) L) : EN σ J (L + 1) (mput W 12 (7 * L + (L + J)) v) := by
  refine ⟨fun c hc => ?_, fun lo j g1 g2 g3 g4 => ?_⟩
  · rw [mput_ne hc]; exact h.1 c hc
  · rw [mput_eq]
    by_cases e : lo = L ∧ j = J + 1
    · obtain ⟨rfl, rfl⟩ := e
      rw [show 7 * lo + (lo + (J + 1) - 1) = 7 * lo + (lo + J) by omega, upd_at, hv]
    · rw [upd_off (by omega)]
      exact h.2 lo j g1 g2 g3 (by omega)
theorem g_allEnds (hq : ∀ σ', EN σ 6 1 σ' → Q (.inl none) sh_10 σ') : mD (d + 2) 198 [.ref 0] sh_10 σ Q := by
  refine ⟨rfl, fun X hX => ?_⟩
  have inn : ∀ n, 1 ≤ n → n ≤ 5 → (∀ W', EN σ (n + 1) 1 W' → X 111 [some (.ref 0), some (.int (nI n)), none, none] [] sh_10 W' 0 0) → ∀ r L W, 7 - n - L = r → 1 ≤ L → L + n ≤ 7 → EN σ n L W → X 40 [some (.ref 0), some (.int (nI n)), some (.int (nI L)), none] [] sh_10 W 0 0 := by
    intro n hn1 hn5 hk r
    induction r with
    | zero =>
      intro L W hr h1 h2 hE
      refine hX _ _ _ _ _ _ _ ?_
      refine b_gt (nI_add L n) (b := 6) rfl (by omega) (by omega) (fun _ => ?_) (fun h => by omega)
      exact hk W ⟨hE.1, fun lo j g1 g2 g3 g4 => hE.2 lo j g1 g2 g3 (by omega)⟩
    | succ r ih =>
      intro L W hr h1 h2 hE
      have i1 : nI 7 * nI L + nI 7 + (nI L + nI n) = nI (7 * L + 7 + (L + n)) := by rw [nI_mul, nI_add, nI_add, nI_add]
      have i2 : nI 7 * nI L + (nI L + nI n) - nI 1 = nI (7 * L + (L + n) - 1) := by rw [nI_mul, nI_add, nI_add, nI_sub (by omega)]
      have i3 : nI 7 * nI L + (nI L + nI n) = nI (7 * L + (L + n)) := by rw [nI_mul, nI_add, nI_add]
      have i4 : nI L + nI n = nI (L + n) := nI_add L n
      refine hX _ _ _ _ _ _ _ ?_
      refine b_gt i4 (b := 6) rfl (by omega) (by omega) (fun h => by omega) (fun _ => ?_)
      refine g_heaped h1 (by omega) ?_
      refine ⟨vin i1 (by omega) (by omega), ?_⟩
      refine g_heapedE i4 (by omega) (by omega) ?_
      refine ⟨vin i2 (by omega) (by omega), ?_⟩
      refine g_greater ?_
      refine ⟨vin i3 (by omega) (by omega), ?_⟩
      have h9 := ih (L + 1) _ (by omega) (by omega) (by omega) (hE.put (v := sMax (W 1 (13 + L) - W 12 (nI 7 * nI L + nI 7 + (nI L + nI n)).toNatClampNeg) (W 1 (13 + (L + n)) - W 12 (nI 7 * nI L + (nI L + nI n) - nI 1).toNatClampNeg)) (by omega) (by
        have f1 := hE.2 (L + 1) n (by omega) hn1 (by omega) (Or.inl (Nat.le_refl _))
        have f2 := hE.2 L n h1 hn1 (by omega) (Or.inl (Nat.le_refl _))
        rw [clN i1 (by omega), clN i2 (by omega), show 7 * L + 7 + (L + n) = 7 * (L + 1) + (L + 1 + n - 1) by omega, show 7 * L + (L + n) - 1 = 7 * L + (L + n - 1) by omega, f1, f2, hE.1 1 (by omega), ← cMx_sMax]
        rfl))
      rw [← clN i3 (by omega), ← nI_1 L] at h9
      exact h9
  have mid : ∀ r n W, 6 - n = r → 1 ≤ n → n ≤ 6 → EN σ n 1 W → X 32 [some (.ref 0), some (.int (nI n)), none, none] [] sh_10 W 0 0 := by
    intro r
    induction r with
    | zero =>
      intro n W hr h1 h2 hE
      have e : n = 6 := by omega
      subst e
      refine hX _ _ _ _ _ _ _ ?_
      refine b_ge rfl (b := 6) rfl (by omega) (by omega) (fun _ => ?_) (fun h => by omega)
      refine hX _ _ _ _ _ _ _ ?_
      exact hq W hE
    | succ r ih =>
      intro n W hr h1 h2 hE
      refine hX _ _ _ _ _ _ _ ?_
      refine b_ge rfl (b := 6) rfl (by omega) (by omega) (fun h => by omega) (fun _ => ?_)
      refine inn n h1 (by omega) (fun W' hE' => ?_) _ 1 W rfl (by omega) (by omega) hE
      refine hX _ _ _ _ _ _ _ ?_
      have h9 := ih (n + 1) W' (by omega) (by omega) (by omega) hE'
      rw [← nI_1 n] at h9
      exact h9
  have fst : ∀ r g W, 7 - g = r → 1 ≤ g → g ≤ 7 → EN σ 0 g W → X 2 [some (.ref 0), some (.int (nI g)), none, none] [] sh_10 W 0 0 := by
    intro r
    induction r with
    | zero =>
      intro g W hr h1 h2 hE
      refine hX _ _ _ _ _ _ _ ?_
      refine b_gt rfl (b := 6) rfl (by omega) (by omega) (fun _ => ?_) (fun h => by omega)
      refine hX _ _ _ _ _ _ _ ?_
      exact mid _ 1 W rfl (by omega) (by omega) ⟨hE.1, fun lo j g1 g2 g3 g4 => hE.2 lo j g1 g2 g3 (by omega)⟩
    | succ r ih =>
      intro g W hr h1 h2 hE
      have i3 : nI 7 * nI g + nI g = nI (7 * g + (g + 0)) := by rw [nI_mul, nI_add]; rfl
      refine hX _ _ _ _ _ _ _ ?_
      refine b_gt rfl (b := 6) rfl (by omega) (by omega) (fun h => by omega) (fun _ => ?_)
      refine g_heaped h1 (by omega) ?_
      refine ⟨vin i3 (by omega) (by omega), ?_⟩
      have h9 := ih (g + 1) _ (by omega) (by omega) (by omega) (hE.put (v := W 1 (13 + g)) (by omega) (by rw [sLe1, hE.1 1 (by omega)]))
      rw [← clN i3 (by omega), ← nI_1 g] at h9
      exact h9
  refine hX _ _ _ _ _ _ _ ?_
  exact fst _ 1 σ rfl (by omega) (by omega) ⟨fun _ _ => rfl, fun lo j g1 g2 g3 g4 => absurd g4 (by omega)⟩
theorem g_ends (hq : ∀ σ', MX σ (σ 1) (nI 0) σ' → Q (.inl (some (.int (sLe (σ 1) 6 1)))) sh_10 σ') : mD (d + 3) 199 [.ref 0] sh_10 σ Q := by
  refine ⟨rfl, fun X hX => ?_⟩
  refine hX _ _ _ _ _ _ _ ?_
  refine g_allEnds (σ := mput σ 0 0 (nI 0)) (fun σ' hE => ?_)
  refine ⟨vp_in_nI (n := 13) (by omega) (by omega), ?_⟩
  refine qi ?_ (hq σ' (MX.lo rfl (fun c hc => hE.1 c (by omega))))
  exact (hE.2 1 6 (by omega) (by omega) (by omega) (Or.inl (by omega))).symm
theorem g_side (hq : ∀ σ', MX σ (σ 1) (nI 0) σ' → Q (.inl (some (.int (sSd (σ 1))))) sh_10 σ') : mD (d + 3) 200 [.ref 0] sh_10 σ Q := by
  refine ⟨rfl, fun X hX => ?_⟩
  refine hX _ _ _ _ _ _ _ ?_
  refine g_allEnds (σ := mput σ 0 0 (nI 0)) (fun σ' hE => ?_)
  have hq := hq σ' (MX.lo rfl (fun c hc => hE.1 c (by omega)))
  have f1 : σ' 12 (nI 20).toNatClampNeg = sLe (σ 1) 5 2 := hE.2 2 5 (by omega) (by omega) (by omega) (Or.inl (by omega))
  have f2 : σ' 12 (nI 13).toNatClampNeg = cMx (σ 1 14 - sLe (σ 1) 5 2) (σ 1 19 - sLe (σ 1) 5 1) := hE.2 1 6 (by omega) (by omega) (by omega) (Or.inl (by omega))
  have f3 : σ' 1 14 = σ 1 14 := congrFun (hE.1 1 (by omega)) 14
  unfold sSd at hq
  refine g_heaped (g := 1) (by omega) (by omega) ?_
  refine ⟨vp_in_nI (n := 20) (by omega) (by omega), ?_⟩
  refine ⟨vp_in_nI (n := 13) (by omega) (by omega), ?_⟩
  refine ⟨fun h => ?_, fun h => ?_⟩
  · have h : ¬ σ' 1 14 - σ' 12 (nI 20).toNatClampNeg = σ' 12 (nI 13).toNatClampNeg := h
    rw [f1, f2, f3] at h
    unfold cMx at h
    have hl : σ 1 14 - sLe (σ 1) 5 2 < σ 1 19 - sLe (σ 1) 5 1 := Classical.byContradiction (fun z => h (by rw [if_neg z]))
    rw [if_pos hl] at hq
    refine hX _ _ _ _ _ _ _ ?_
    refine hX _ _ _ _ _ _ _ ?_
    exact hq
  · have h : σ' 1 14 - σ' 12 (nI 20).toNatClampNeg = σ' 12 (nI 13).toNatClampNeg := h
    rw [f1, f2, f3] at h
    unfold cMx at h
    have hl : ¬ σ 1 14 - sLe (σ 1) 5 2 < σ 1 19 - sLe (σ 1) 5 1 := fun z => by
      rw [if_pos z] at h
      rw [h] at z
      exact Int32.lt_irrefl z
    rw [if_neg hl] at hq
    refine hX _ _ _ _ _ _ _ ?_
    exact hq
end MLE
