/-! THE MODEL: contracts two by two -/
theorem low_ex : ∀ n, n < 7 → ∀ S, S < 2 ^ n → 0 < S → ∃ i, i < n ∧ S.testBit i = true ∧ ∀ j, j < i → S.testBit j = false := by decide +kernel
theorem foP_congr {v0 : Nat} {val val2 : Nat → Option Nat} : ∀ k, (∀ i, i < k → val i = val2 i) → foP v0 val k = foP v0 val2 k
  | 0, _ => rfl
  | k + 1, h => by rw [foP_s, foP_s, h k (by omega), foP_congr k (fun i hi => h i (by omega))]
theorem pqV_skip {nd : Nat} {pr : Nat → Nat → Option Nat} {T : Nat} : ∀ i, i ≤ nd → (∀ b, b < i → T.testBit b = false) → pqV nd pr nd T = pqV nd pr (nd - i) T
  | 0, _, _ => rfl
  | i + 1, hi, h => by
    rw [pqV_skip i (by omega) (fun b hb => h b (by omega)), show nd - i = (nd - (i + 1)) + 1 by omega, pqV, show nd - (nd - (i + 1) + 1) = i by omega, if_neg (by rw [h i (by omega)]; decide)]
theorem pqR_skip {nd : Nat} {pr : Nat → Nat → Option Nat} {T : Nat} {w : Nat → Int32} : ∀ i, i ≤ nd → (∀ b, b < i → T.testBit b = false) → pqR nd pr nd T w = pqR nd pr (nd - i) T w
  | 0, _, _ => rfl
  | i + 1, hi, h => by
    rw [pqR_skip i (by omega) (fun b hb => h b (by omega)), show nd - i = (nd - (i + 1)) + 1 by omega, pqR, show nd - (nd - (i + 1) + 1) = i by omega, if_neg (by rw [h i (by omega)]; decide)]
theorem pqV_0 {nd : Nat} {pr : Nat → Nat → Option Nat} : pqV nd pr nd 0 = 0 := by
  rw [pqV_skip nd (Nat.le_refl _) (fun b _ => Nat.zero_testBit b), Nat.sub_self]
  rfl
section PLO
variable {nd : Nat} {pr : Nat → Nat → Option Nat} {S k : Nat}
theorem low_r (hnd : nd ≤ 6) (hS : S < 2 ^ nd) (hk : k < nd) (hb : S.testBit k = true) (hl : ∀ i, i < k → S.testBit i = false) : (∀ b, b < k + 1 → (S - 2 ^ k).testBit b = false) ∧ ∀ o, o < nd → k < o → S.testBit o = true → ((S - 2 ^ k).testBit o = true ∧ ∀ b, b < k + 1 → (S - 2 ^ k - 2 ^ o).testBit b = false) := by
  have h64 : 2 ^ nd ≤ 64 := Nat.pow_le_pow_right (n := 2) (by omega) hnd
  have o1 := sb_out S (by omega) k (by omega) hb
  have l1 := sb_lt S (by omega) k (by omega) hb
  have r1 : ∀ b, b < k + 1 → (S - 2 ^ k).testBit b = false := by
    intro b hbk
    rw [o1 b (by omega)]
    by_cases e : b = k
    · rw [e]; simp
    · rw [hl b (by omega)]; rfl
  refine ⟨r1, fun o ho hko hbo => ?_⟩
  have bo : (S - 2 ^ k).testBit o = true := by
    rw [o1 o (by omega), hbo, show (o == k) = false from beq_eq_false_iff_ne.mpr (by omega)]; rfl
  refine ⟨bo, fun b hbk => ?_⟩
  rw [sb_out _ (show S - 2 ^ k < 128 by omega) o (by omega) bo b (by omega), r1 b hbk, Bool.false_and]
theorem low_f (hnd : nd ≤ 6) (hS : S < 2 ^ nd) (hk : k < nd) (hb : S.testBit k = true) (hl : ∀ i, i < k → S.testBit i = false) : foP (pqV nd pr (nd - (k + 1)) (S - 2 ^ k)) (pvl pr (pqV nd pr (nd - (k + 1))) k S) nd = foP (pqV nd pr nd (S - 2 ^ k)) (pvl pr (pqV nd pr nd) k S) nd := by
  obtain ⟨r1, r2⟩ := low_r hnd hS hk hb hl
  rw [← pqV_skip (k + 1) (by omega) r1]
  refine foP_congr nd (fun o ho => ?_)
  unfold pvl
  by_cases hc : k < o ∧ S.testBit o = true
  · rw [if_pos hc, if_pos hc, ← pqV_skip (k + 1) (by omega) (r2 o ho hc.1 hc.2).2]
  · rw [if_neg hc, if_neg hc]
theorem pqV_low (hnd : nd ≤ 6) (hS : S < 2 ^ nd) (hk : k < nd) (hb : S.testBit k = true) (hl : ∀ i, i < k → S.testBit i = false) : pqV nd pr nd S = (foP (pqV nd pr nd (S - 2 ^ k)) (pvl pr (pqV nd pr nd) k S) nd).1 := by
  rw [← low_f hnd hS hk hb hl, pqV_skip k (by omega) hl, show nd - k = (nd - (k + 1)) + 1 by omega, pqV, show nd - (nd - (k + 1) + 1) = k by omega, if_pos hb]
theorem pqR_lowN {w : Nat → Int32} (hnd : nd ≤ 6) (hS : S < 2 ^ nd) (hk : k < nd) (hb : S.testBit k = true) (hl : ∀ i, i < k → S.testBit i = false) (h : (foP (pqV nd pr nd (S - 2 ^ k)) (pvl pr (pqV nd pr nd) k S) nd).2 = none) : pqR nd pr nd S w = pqR nd pr nd (S - 2 ^ k) w := by
  obtain ⟨r1, r2⟩ := low_r hnd hS hk hb hl
  rw [← low_f hnd hS hk hb hl] at h
  rw [pqR_skip k (by omega) hl, show nd - k = (nd - (k + 1)) + 1 by omega, pqR, show nd - (nd - (k + 1) + 1) = k by omega, if_pos hb, h]
  exact (pqR_skip (k + 1) (by omega) r1).symm
theorem pqR_lowS {w : Nat → Int32} {o : Nat} (hnd : nd ≤ 6) (hS : S < 2 ^ nd) (hk : k < nd) (hb : S.testBit k = true) (hl : ∀ i, i < k → S.testBit i = false) (h : (foP (pqV nd pr nd (S - 2 ^ k)) (pvl pr (pqV nd pr nd) k S) nd).2 = some o) (ho : o < nd) (hko : k < o) (hbo : S.testBit o = true) : pqR nd pr nd S w = pqR nd pr nd (S - 2 ^ k - 2 ^ o) (upd (upd w k (nI o)) o (nI k)) := by
  obtain ⟨r1, r2⟩ := low_r hnd hS hk hb hl
  rw [← low_f hnd hS hk hb hl] at h
  rw [pqR_skip k (by omega) hl, show nd - k = (nd - (k + 1)) + 1 by omega, pqR, show nd - (nd - (k + 1) + 1) = k by omega, if_pos hb, h]
  exact (pqR_skip (k + 1) (by omega) (r2 o ho hko hbo).2).symm
end PLO
section MPA
variable {d : Nat} {σ : mSg} {Q : mPst} {n nc ns nd : Nat} {sh : List mSh}
theorem g_lowest {S k : Nat} (hS : S < 128) (hk : k < 7) (hb : S.testBit k = true) (hl : ∀ i, i < k → S.testBit i = false) (hq : Q (.inl (some (.int (nI k)))) sh σ) : mD (d + 2) 201 [.int (nI S)] sh σ Q := by
  refine ⟨rfl, fun X hX => ?_⟩
  have loop : ∀ r i, k - i = r → i ≤ k → X 2 [some (.int (nI S)), some (.int (nI i))] [] sh σ 0 0 := by
    intro r
    induction r with
    | zero =>
      intro i hr hi
      have ei : i = k := by omega
      subst ei
      refine hX _ _ _ _ _ _ _ ?_
      refine g_isOf (fun h => ?_) (fun h => absurd (by rw [bit_is S hS i hk, if_pos hb]) h)
      refine ⟨fun _ => ?_, fun z => absurd z (by decide +kernel)⟩
      refine hX _ _ _ _ _ _ _ ?_
      exact hq
    | succ r ih =>
      intro i hr hi
      refine hX _ _ _ _ _ _ _ ?_
      refine g_isOf (fun h => absurd h (by rw [bit_is S hS i (by omega), if_neg (by rw [hl i (by omega)]; decide)]; decide +kernel)) (fun h => ?_)
      refine ⟨fun z => absurd rfl z, fun _ => ?_⟩
      have h9 := ih (i + 1) (by omega) (by omega)
      rw [← nI_1 i] at h9
      exact h9
  refine hX _ _ _ _ _ _ _ ?_
  exact loop _ 0 rfl (Nat.zero_le _)
theorem g_both {k o : Nat} (hk : k < nd) (ho : o < nd) (hB : BD (σ 1) n nc ns nd) (hq : Q (.inl (some (.int (oM (-(nI 1)) (boN (σ 1) nd k o))))) sh_10 σ) : mD (d + 2) 202 [.ref 0, .int (nI k), .int (nI o)] sh_10 σ Q := by
  have hn := hB.2.2.2.1.2
  obtain ⟨k1, k2, k3, k4, k5⟩ := hB.dl hk
  obtain ⟨o1, o2, o3, o4, o5⟩ := hB.dl ho
  obtain ⟨pk, pk9⟩ := paN_ok hB hk
  obtain ⟨po, po9⟩ := paN_ok hB ho
  unfold boN at hq
  refine ⟨rfl, fun X hX => ?_⟩
  have p30 : ¬ (dLo (σ 1) k ≤ dHi (σ 1) o ∧ dLo (σ 1) o ≤ dHi (σ 1) k) → X 30 [some (.ref 0), some (.int (nI k)), some (.int (nI o)), none] [] sh_10 σ 0 0 := by
    intro h
    rw [if_neg (fun z => h z.2.2)] at hq
    refine hX _ _ _ _ _ _ _ ?_
    refine hX _ _ _ _ _ _ _ ?_
    refine ⟨fun z => absurd z (by decide +kernel), fun _ => ?_⟩
    refine hX _ _ _ _ _ _ _ ?_
    exact hq
  refine hX _ _ _ _ _ _ _ ?_
  refine g_ofDeal (w := 1) (by omega) (by omega) ?_
  refine g_ofDeal (w := 0) (by omega) (by omega) ?_
  refine b_lt k2 o1 (by omega) (by omega) (fun h => p30 (by omega)) (fun h1 => ?_)
  refine g_ofDeal (w := 1) (by omega) (by omega) ?_
  refine g_ofDeal (w := 0) (by omega) (by omega) ?_
  refine b_ge o2 k1 (by omega) (by omega) (fun h2 => ?_) (fun h => p30 (by omega))
  rw [if_pos ⟨hk, ho, h2, h1⟩] at hq
  refine hX _ _ _ _ _ _ _ ?_
  refine hX _ _ _ _ _ _ _ ?_
  refine ⟨fun _ => ?_, fun z => absurd rfl z⟩
  refine hX _ _ _ _ _ _ _ ?_
  refine g_ofDeal (w := 3) (by omega) (by omega) ?_
  refine g_ofDeal (w := 3) (by omega) (by omega) ?_
  refine hX _ _ _ _ _ _ _ ?_
  refine qi (Q := Q) ?_ hq
  show nI (paN (σ 1) k + paN (σ 1) o) = σ 1 (93 + 5 * k + 3) + σ 1 (93 + 5 * o + 3)
  rw [pk, po, nI_add]
/-- the best of the sets below K -/
def PB (σ : mSg) (nd K : Nat) (W : mSg) : Prop := (∀ c, c ≠ 10 → W c = σ c) ∧ ∀ T, T < K → W 10 T = nI (pqV nd (boN (σ 1) nd) nd T)
theorem g_allBest (hB : BD (σ 1) n nc ns nd) (hq : ∀ σ', PB σ nd (2 ^ nd) σ' → Q (.inl none) sh_10 σ') : mD (d + 3) 203 [.ref 0] sh_10 σ Q := by
  have hn := hB.2.2.2.1.2
  have h64 : 2 ^ nd ≤ 64 := Nat.pow_le_pow_right (n := 2) (by omega) hn
  have hVle := pqV_le (nd := nd) (boN_le hB)
  have e6 : ∀ W : mSg, (∀ c, c ≠ 10 → W c = σ c) → W 1 6 = nI nd := fun W w => by rw [w 1 (by omega)]; exact hB.2.2.2.1.1
  refine ⟨rfl, fun X hX => ?_⟩
  have inn : ∀ S k, 0 < S → S < 2 ^ nd → k < nd → S.testBit k = true → (∀ i, i < k → S.testBit i = false) → (∀ W', PB σ nd (S + 1) W' → X 126 [some (.ref 0), some (.int (nI S)), none, none, none] [] sh_10 W' 0 0) → ∀ (r o : Nat) (W : mSg), nd - o = r → k + 1 ≤ o → o ≤ nd → PB σ nd S W → W 10 S = nI (foP (pqV nd (boN (σ 1) nd) nd (S - 2 ^ k)) (pvl (boN (σ 1) nd) (pqV nd (boN (σ 1) nd) nd) k S) o).1 → X 52 [some (.ref 0), some (.int (nI S)), some (.int (nI k)), some (.int (nI (S - 2 ^ k))), some (.int (nI o))] [] sh_10 W 0 0 := by
    intro S k hS0 hS hk hb hl hkt r
    obtain ⟨r1, r2⟩ := low_r hn hS hk hb hl
    have l1 := sb_lt S (by omega) k (by omega) hb
    have hlow := pqV_low (pr := boN (σ 1) nd) hn hS hk hb hl
    have hfl : ∀ o, (foP (pqV nd (boN (σ 1) nd) nd (S - 2 ^ k)) (pvl (boN (σ 1) nd) (pqV nd (boN (σ 1) nd) nd) k S) o).1 ≤ 200 := by
      intro o
      refine foP_le ?_ (fun i v h => ?_) o
      · have := hVle nd (S - 2 ^ k); omega
      · obtain ⟨-, -, p, g1, g2⟩ := pvl_some h
        have a := boN_le hB _ _ _ g1
        have b := hVle nd (S - 2 ^ k - 2 ^ i)
        omega
    induction r with
    | zero =>
      intro o W hr o1 o2 w1 w2
      have eo : o = nd := by omega
      subst eo
      refine hX _ _ _ _ _ _ _ ?_
      refine ⟨vp_in_nI (n := 6) (by omega) (by omega), ?_⟩
      refine b_ge rfl (e6 W w1.1) (by omega) (by omega) (fun _ => ?_) (fun h => by omega)
      refine hkt W ⟨w1.1, fun T hT => ?_⟩
      by_cases e : T = S
      · rw [e, w2, hlow]
      · exact w1.2 T (by omega)
    | succ r ih =>
      intro o W hr o1 o2 w1 w2
      have hBW : BD (W 1) n nc ns nd := by rw [w1.1 1 (by omega)]; exact hB
      have hW1 : W 1 = σ 1 := w1.1 1 (by omega)
      have p120 : ∀ W, PB σ nd S W → W 10 S = nI (foP (pqV nd (boN (σ 1) nd) nd (S - 2 ^ k)) (pvl (boN (σ 1) nd) (pqV nd (boN (σ 1) nd) nd) k S) (o + 1)).1 → X 120 [some (.ref 0), some (.int (nI S)), some (.int (nI k)), some (.int (nI (S - 2 ^ k))), some (.int (nI o))] [] sh_10 W 0 0 := by
        intro W w1 w2
        refine hX _ _ _ _ _ _ _ ?_
        have h9 := ih (o + 1) W (by omega) (by omega) (by omega) w1 w2
        rw [← nI_1 o] at h9
        exact h9
      have hfo := hfl o
      have hfs := foP_s (v0 := pqV nd (boN (σ 1) nd) nd (S - 2 ^ k)) (val := pvl (boN (σ 1) nd) (pqV nd (boN (σ 1) nd) nd) k S) (i := o)
      have keep : pvl (boN (σ 1) nd) (pqV nd (boN (σ 1) nd) nd) k S o = none → X 120 [some (.ref 0), some (.int (nI S)), some (.int (nI k)), some (.int (nI (S - 2 ^ k))), some (.int (nI o))] [] sh_10 W 0 0 := by
        intro h
        rw [h] at hfs
        exact p120 W w1 (by rw [hfs]; exact w2)
      have ob := sb_out S (by omega) k (by omega) hb o (by omega)
      rw [show (o == k) = false from beq_eq_false_iff_ne.mpr (by omega), Bool.not_false, Bool.and_true] at ob
      have his := bit_is (S - 2 ^ k) (by omega) o (by omega)
      rw [ob] at his
      refine hX _ _ _ _ _ _ _ ?_
      refine ⟨vp_in_nI (n := 6) (by omega) (by omega), ?_⟩
      refine b_ge rfl (e6 W w1.1) (by omega) (by omega) (fun h => by omega) (fun _ => ?_)
      refine g_isOf (fun h => ?_) (fun h => ?_)
      · have hbo : S.testBit o = true := by
          refine Classical.byContradiction (fun z => ?_)
          rw [his, if_neg z] at h
          exact absurd h (by decide +kernel)
        obtain ⟨q1, q2⟩ := r2 o (by omega) (by omega) hbo
        have l2 := sb_lt (S - 2 ^ k) (by omega) o (by omega) q1
        refine ⟨fun z => absurd z (by decide +kernel), fun _ => ?_⟩
        refine g_both hk (by omega) hBW ?_
        rw [hW1]
        cases hbn : boN (σ 1) nd k o with
        | none =>
          refine ⟨fun _ => keep ?_, fun z => absurd rfl z⟩
          unfold pvl
          rw [if_pos ⟨by omega, hbo⟩, hbn]
        | some p =>
          have hp18 := boN_le hB _ _ _ hbn
          have hV := hVle nd (S - 2 ^ k - 2 ^ o)
          have hv : pvl (boN (σ 1) nd) (pqV nd (boN (σ 1) nd) nd) k S o = some (p + pqV nd (boN (σ 1) nd) nd (S - 2 ^ k - 2 ^ o)) := by
            unfold pvl
            rw [if_pos ⟨by omega, hbo⟩, hbn]
          rw [hv] at hfs
          have i3 : nI (S - 2 ^ k) &&& ((nI 1 <<< (nI o &&& 31)) ^^^ -(nI 1)) = nI (S - 2 ^ k - 2 ^ o) := bit_out (S - 2 ^ k) (by omega) o (by omega) q1
          refine ⟨fun z => absurd z (oM_ne (by omega)), fun _ => ?_⟩
          refine ⟨vp_in_nI (by omega) (by omega), ?_⟩
          refine g_both hk (by omega) hBW ?_
          rw [hW1, hbn]
          refine ⟨vin i3 (by omega) (by omega), ?_⟩
          refine g_greater ?_
          refine ⟨vp_in_nI (by omega) (by omega), ?_⟩
          have ev : sMax (W 10 (nI S).toNatClampNeg) (nI p + W 10 (nI (S - 2 ^ k) &&& ((nI 1 <<< (nI o &&& 31)) ^^^ -(nI 1))).toNatClampNeg) = nI (foP (pqV nd (boN (σ 1) nd) nd (S - 2 ^ k)) (pvl (boN (σ 1) nd) (pqV nd (boN (σ 1) nd) nd) k S) (o + 1)).1 := by
            rw [nI_clamp (by omega), clN i3 (by omega), w2, w1.2 _ (by omega), nI_add, sMax_nI (by omega) (by omega), hfs]
            by_cases hlt : (foP (pqV nd (boN (σ 1) nd) nd (S - 2 ^ k)) (pvl (boN (σ 1) nd) (pqV nd (boN (σ 1) nd) nd) k S) o).1 < p + pqV nd (boN (σ 1) nd) nd (S - 2 ^ k - 2 ^ o)
            · simp only [if_pos hlt]
              congr 1
              omega
            · simp only [if_neg hlt]
              congr 1
              omega
          refine p120 _ ⟨fun c hc => ?_, fun T hT => ?_⟩ ?_
          · rw [mput_ne hc]; exact w1.1 c hc
          · rw [mput_eq, nI_clamp (by omega), upd_off (by omega)]; exact w1.2 T hT
          · rw [mput_eq, nI_clamp (by omega), upd_at]
            rw [nI_clamp (by omega)] at ev
            exact ev
      · have hbo : ¬ S.testBit o = true := fun z => h (by rw [his, if_pos z])
        refine ⟨fun _ => keep ?_, fun z => absurd rfl z⟩
        unfold pvl
        rw [if_neg (fun z => hbo z.2)]
  have out : ∀ (r S : Nat) (W : mSg), 2 ^ nd - S = r → 0 < S → S ≤ 2 ^ nd → PB σ nd S W → X 9 [some (.ref 0), some (.int (nI S)), none, none, none] [] sh_10 W 0 0 := by
    intro r
    induction r with
    | zero =>
      intro S W hr h0 hS w1
      have eS : S = 2 ^ nd := by omega
      have e4 : nI 1 <<< (W 1 6 &&& 31) = nI (2 ^ nd) := by rw [e6 W w1.1]; exact bit_one nd (by omega)
      rw [eS] at w1 ⊢
      refine hX _ _ _ _ _ _ _ ?_
      refine ⟨vp_in_nI (n := 6) (by omega) (by omega), ?_⟩
      refine b_ge rfl e4 (by omega) (by omega) (fun _ => ?_) (fun h => by omega)
      refine hX _ _ _ _ _ _ _ ?_
      exact hq W w1
    | succ r ih =>
      intro S W hr h0 hS w1
      have e4 : nI 1 <<< (W 1 6 &&& 31) = nI (2 ^ nd) := by rw [e6 W w1.1]; exact bit_one nd (by omega)
      obtain ⟨k, hk, hb, hl⟩ := low_ex nd (by omega) S (by omega) h0
      have l1 := sb_lt S (by omega) k (by omega) hb
      have i3 : nI S &&& ((nI 1 <<< (nI k &&& 31)) ^^^ -(nI 1)) = nI (S - 2 ^ k) := bit_out S (by omega) k (by omega) hb
      refine hX _ _ _ _ _ _ _ ?_
      refine ⟨vp_in_nI (n := 6) (by omega) (by omega), ?_⟩
      refine b_ge rfl e4 (by omega) (by omega) (fun h => by omega) (fun _ => ?_)
      refine g_lowest (by omega) (by omega) hb hl ?_
      refine ⟨vin i3 (by omega) (by omega), ?_⟩
      refine ⟨vp_in_nI (by omega) (by omega), ?_⟩
      have h9 := inn S k h0 (by omega) hk hb hl (fun W' u => by
        refine hX _ _ _ _ _ _ _ ?_
        have h8 := ih (S + 1) W' (by omega) (by omega) (by omega) u
        rw [← nI_1 S] at h8
        exact h8) _ (k + 1) (mput W 10 (nI S).toNatClampNeg (W 10 (nI S &&& ((nI 1 <<< (nI k &&& 31)) ^^^ -(nI 1))).toNatClampNeg)) rfl (Nat.le_refl _) (by omega) ⟨fun c hc => by rw [mput_ne hc]; exact w1.1 c hc, fun T hT => by rw [mput_eq, nI_clamp (by omega), upd_off (by omega)]; exact w1.2 T hT⟩ (by
        rw [mput_eq, nI_clamp (by omega), upd_at, clN i3 (by omega), w1.2 _ (by omega), foP_lo (k + 1) (fun i hi => by unfold pvl; rw [if_neg (by omega)])])
      rw [← i3, ← nI_1 k] at h9
      exact h9
  refine hX _ _ _ _ _ _ _ ?_
  refine ⟨vp_in_nI (n := 0) (by omega) (by omega), ?_⟩
  refine out _ 1 _ rfl (by omega) (Nat.two_pow_pos nd) ⟨fun c hc => mput_ne hc, fun T hT => ?_⟩
  have eT : T = 0 := by omega
  rw [eT, pqV_0]
  rfl
end MPA
section MPB
variable {d : Nat} {σ : mSg} {Q : mPst} {n nc ns nd : Nat}
theorem g_pairs {p : Int32} (hB : BD (σ 1) n nc ns nd) (q1 : ∀ s : Option Nat, (∀ k, s = some k → k < nd) → p = oN s → ∀ σ', MX σ (σ 1) (nI 0) σ' → Q (.inl (some (.int (sPa (σ 1) nd s)))) sh_10 σ') (q0 : ¬ sOk nd p → ∀ σ', MX σ (σ 1) (nI 1) σ' → Q (.inl (some (.int (nI 0)))) sh_10 σ') : mD (d + 4) 204 [.ref 0, .int p] sh_10 σ Q := by
  have hn := hB.2.2.2.1.2
  have h64 : 2 ^ nd ≤ 64 := Nat.pow_le_pow_right (n := 2) (by omega) hn
  have hVle := pqV_le (nd := nd) (boN_le hB)
  have hO : opN (σ 1) nd < 2 ^ nd := sN_lt nd
  refine ⟨rfl, fun X hX => ?_⟩
  have good : ∀ s : Option Nat, (∀ k, s = some k → k < nd) → p = oN s → X 18 [some (.ref 0), some (.int p), none, none, none, none, none] [.ref 0] sh_10 σ 0 0 := by
    intro s hs hp
    have hq := q1 s hs hp
    subst hp
    refine hX _ _ _ _ _ _ _ ?_
    refine hX _ _ _ _ _ _ _ ?_
    refine ⟨fun _ => ?_, fun z => absurd (show nI 0 ≤ 0 from by decide +kernel) z⟩
    refine hX _ _ _ _ _ _ _ ?_
    refine g_allBest (σ := mput σ 0 0 (nI 0)) hB (fun W w => ?_)
    have hq := hq W (MX.lo rfl (fun c hc => w.1 c (by omega)))
    have hW1 : W 1 = σ 1 := w.1 1 (by omega)
    have hBW : BD (W 1) n nc ns nd := by rw [hW1]; exact hB
    have w2 : ∀ T, T < 2 ^ nd → W 10 T = nI (pqV nd (boN (σ 1) nd) nd T) := w.2
    refine g_openOnes hBW ?_
    rw [hW1, sSet_nI nd (by omega), show sN (opB (σ 1)) nd = opN (σ 1) nd from rfl]
    cases s with
    | none =>
      refine ⟨fun z => absurd rfl z, fun _ => ?_⟩
      refine ⟨vp_in_nI (by omega) (by omega), ?_⟩
      refine qi ?_ hq
      show _ = W 10 (nI (opN (σ 1) nd)).toNatClampNeg
      rw [nI_clamp (by omega), w2 _ hO]
      rfl
    | some one =>
      have h1 := hs one rfl
      have walk : ∀ (F S : Nat) (u : Nat → Int32), S < F → S < 2 ^ nd → u one = -(nI 1) → Q (.inl (some (.int (pqR nd (boN (σ 1) nd) nd S u one)))) sh_10 W → X 52 [some (.ref 0), some (.int (nI one)), some (.int (nI S)), none, none, none, none] [] sh_10 W 0 0 := by
        intro F
        induction F with
        | zero => intro S u h; exact absurd h (by omega)
        | succ F ih =>
          intro S u hF hS hu hr
          refine hX _ _ _ _ _ _ _ ?_
          refine b_eq rfl (b := 0) rfl (by omega) (by omega) (fun e0 => ?_) (fun e0 => ?_)
          · refine hX _ _ _ _ _ _ _ ?_
            rw [e0, pqR_off hn (by omega) nd 0 u (Nat.le_refl _) (Nat.two_pow_pos nd) (Nat.zero_testBit one), hu] at hr
            exact hr
          · obtain ⟨k, hk, hb, hl⟩ := low_ex nd (by omega) S hS (by omega)
            have l1 := sb_lt S (by omega) k (by omega) hb
            have o1 := sb_out S (by omega) k (by omega) hb
            have i3 : nI S &&& ((nI 1 <<< (nI k &&& 31)) ^^^ -(nI 1)) = nI (S - 2 ^ k) := bit_out S (by omega) k (by omega) hb
            obtain ⟨r1, r2⟩ := low_r hn hS hk hb hl
            have hlow := pqV_low (pr := boN (σ 1) nd) hn hS hk hb hl
            have fk := foP_ok (v0 := pqV nd (boN (σ 1) nd) nd (S - 2 ^ k)) (val := pvl (boN (σ 1) nd) (pqV nd (boN (σ 1) nd) nd) k S) nd
            rw [← hlow] at fk
            have bS := hVle nd S
            have bR := hVle nd (S - 2 ^ k)
            have vS : W 10 (nI S).toNatClampNeg = nI (pqV nd (boN (σ 1) nd) nd S) := by rw [nI_clamp (by omega)]; exact w2 S hS
            have vR : W 10 (nI (S - 2 ^ k)).toNatClampNeg = nI (pqV nd (boN (σ 1) nd) nd (S - 2 ^ k)) := by rw [nI_clamp (by omega)]; exact w2 _ (by omega)
            have e7 : W 1 6 - nI 1 = nI (nd - 1) := by rw [hW1, hB.2.2.2.1.1, nI_sub (by omega)]
            have go : ∀ o, o = nd - 1 → ∀ y, y = nI o → ∀ z, z = nI (S - 2 ^ k) → (X 84 [some (.ref 0), some (.int (nI one)), some (.int (nI S)), some (.int (nI k)), some (.int (nI (S - 2 ^ k))), some (.int (-(nI 1))), some (.int (nI (nd - 1)))] [] sh_10 W 0 0) → X 84 [some (.ref 0), some (.int (nI one)), some (.int (nI S)), some (.int (nI k)), some (.int z), some (.int (-(nI 1))), some (.int y)] [] sh_10 W 0 0 := by
              intro o ho y hy z hz h
              subst hy; subst hz; subst ho
              exact h
            refine g_lowest (by omega) (by omega) hb hl ?_
            refine ⟨vp_in_nI (n := 6) (by omega) (by omega), ?_⟩
            refine go (nd - 1) rfl _ e7 _ i3 ?_
            cases hch : (foP (pqV nd (boN (σ 1) nd) nd (S - 2 ^ k)) (pvl (boN (σ 1) nd) (pqV nd (boN (σ 1) nd) nd) k S) nd).2 with
            | none =>
              have hV := fk.2.2.1 hch
              rw [pqR_lowN hn hS hk hb hl hch] at hr
              have p168 : X 168 [some (.ref 0), some (.int (nI one)), none, some (.int (nI k)), some (.int (nI (S - 2 ^ k))), some (.int (-(nI 1))), none] [] sh_10 W 0 0 := by
                refine hX _ _ _ _ _ _ _ ?_
                refine b_ne rfl rfl (by omega) (by omega) (fun hne => ?_) (fun he => ?_)
                · refine hX _ _ _ _ _ _ _ ?_
                  refine ⟨fun _ => ?_, fun z => absurd z.symm (oN_ne (k := one) (by omega))⟩
                  refine hX _ _ _ _ _ _ _ ?_
                  refine ⟨fun z => absurd rfl z, fun _ => ?_⟩
                  refine hX _ _ _ _ _ _ _ ?_
                  exact ih (S - 2 ^ k) u (by omega) (by omega) hu hr
                · rw [← he] at hr hu
                  rw [pqR_off hn (by omega) nd _ u (Nat.le_refl _) (by omega) (r1 k (by omega)), hu] at hr
                  exact hr
              refine hX _ _ _ _ _ _ _ ?_
              refine b_le rfl rfl (by omega) (by omega) (fun _ => p168) (fun _ => ?_)
              refine ⟨vp_in_nI (by omega) (by omega), ?_⟩
              refine ⟨vp_in_nI (by omega) (by omega), ?_⟩
              exact b_eq vR vS (by omega) (by omega) (fun _ => p168) (fun h => absurd hV.symm h)
            | some i =>
              obtain ⟨g1, g2, g3, g4⟩ := fk.2.2.2 i hch
              obtain ⟨f1, f2, pp, f3, f4⟩ := pvl_some g2
              obtain ⟨bi, bi2⟩ := r2 i g1 f1 f2
              have l2 := sb_lt (S - 2 ^ k) (by omega) i (by omega) bi
              have o2 := sb_out (S - 2 ^ k) (by omega) i (by omega) bi
              rw [pqR_lowS hn hS hk hb hl hch g1 f1 f2] at hr
              have j3 : nI (S - 2 ^ k) &&& ((nI 1 <<< (nI i &&& 31)) ^^^ -(nI 1)) = nI (S - 2 ^ k - 2 ^ i) := bit_out (S - 2 ^ k) (by omega) i (by omega) bi
              have p168 : X 168 [some (.ref 0), some (.int (nI one)), none, some (.int (nI k)), some (.int (nI (S - 2 ^ k))), some (.int (nI i)), none] [] sh_10 W 0 0 := by
                refine hX _ _ _ _ _ _ _ ?_
                refine b_ne rfl rfl (by omega) (by omega) (fun hne => ?_) (fun he => ?_)
                · refine hX _ _ _ _ _ _ _ ?_
                  refine b_ne rfl rfl (by omega) (by omega) (fun hne2 => ?_) (fun he => ?_)
                  · refine hX _ _ _ _ _ _ _ ?_
                    refine ⟨fun _ => ?_, fun z => absurd z (oN_ne (k := i) (by omega))⟩
                    refine hX _ _ _ _ _ _ _ ?_
                    refine hX _ _ _ _ _ _ _ ?_
                    have h9 := ih (S - 2 ^ k - 2 ^ i) _ (by omega) (by omega) (by rw [upd_off (fun z => hne2 z.symm), upd_off (fun z => hne z.symm)]; exact hu) hr
                    rw [← j3] at h9
                    exact h9
                  · rw [← he] at hr
                    rw [pqR_off hn (by omega) nd _ _ (Nat.le_refl _) (by omega) (by rw [o2 i (by omega)]; simp), upd_at] at hr
                    exact hr
                · rw [← he] at hr
                  rw [pqR_off hn (by omega) nd _ _ (Nat.le_refl _) (by omega) (bi2 k (by omega)), upd_off (by omega), upd_at] at hr
                  exact hr
              have dn : ∀ (r o : Nat) (x : Int32), o = k + r → o < nd → (o < i → x = nI i) → X 84 [some (.ref 0), some (.int (nI one)), some (.int (nI S)), some (.int (nI k)), some (.int (nI (S - 2 ^ k))), some (.int x), some (.int (nI o))] [] sh_10 W 0 0 := by
                intro r
                induction r with
                | zero =>
                  intro o x ho hon hx
                  have hx := hx (by omega)
                  subst hx
                  refine hX _ _ _ _ _ _ _ ?_
                  exact b_le rfl rfl (by omega) (by omega) (fun _ => p168) (fun h => by omega)
                | succ r ih2 =>
                  intro o x ho hon hx
                  have p162 : ∀ x, (o ≤ i → x = nI i) → X 162 [some (.ref 0), some (.int (nI one)), some (.int (nI S)), some (.int (nI k)), some (.int (nI (S - 2 ^ k))), some (.int x), some (.int (nI o))] [] sh_10 W 0 0 := by
                    intro x hx
                    refine hX _ _ _ _ _ _ _ ?_
                    have h9 := ih2 (o - 1) x (by omega) (by omega) (fun h => hx (by omega))
                    rw [← nI_sub (show 1 ≤ o by omega)] at h9
                    exact h9
                  have no : o ≠ i → X 162 [some (.ref 0), some (.int (nI one)), some (.int (nI S)), some (.int (nI k)), some (.int (nI (S - 2 ^ k))), some (.int x), some (.int (nI o))] [] sh_10 W 0 0 := fun h => p162 x (fun z => hx (by omega))
                  have ob := o1 o (by omega)
                  rw [show (o == k) = false from beq_eq_false_iff_ne.mpr (by omega), Bool.not_false, Bool.and_true] at ob
                  have his := bit_is (S - 2 ^ k) (by omega) o (by omega)
                  rw [ob] at his
                  refine hX _ _ _ _ _ _ _ ?_
                  refine b_le rfl rfl (by omega) (by omega) (fun h => by omega) (fun _ => ?_)
                  refine ⟨vp_in_nI (by omega) (by omega), ?_⟩
                  refine ⟨vp_in_nI (by omega) (by omega), ?_⟩
                  refine b_eq vR vS (by omega) (by omega) (fun h => by omega) (fun _ => ?_)
                  refine g_isOf (fun h => ?_) (fun h => ?_)
                  · have hbo : S.testBit o = true := by
                      refine Classical.byContradiction (fun z => ?_)
                      rw [his, if_neg z] at h
                      exact absurd h (by decide +kernel)
                    obtain ⟨t1, t2⟩ := r2 o hon (by omega) hbo
                    have l3 := sb_lt (S - 2 ^ k) (by omega) o (by omega) t1
                    have i5 : nI (S - 2 ^ k) &&& ((nI 1 <<< (nI o &&& 31)) ^^^ -(nI 1)) = nI (S - 2 ^ k - 2 ^ o) := bit_out (S - 2 ^ k) (by omega) o (by omega) t1
                    refine ⟨fun z => absurd z (by decide +kernel), fun _ => ?_⟩
                    refine g_both hk hon hBW ?_
                    rw [hW1]
                    cases hbn : boN (σ 1) nd k o with
                    | none => exact ⟨fun _ => no (fun z => by rw [z, f3] at hbn; cases hbn), fun z => absurd rfl z⟩
                    | some q =>
                      have hq18 := boN_le hB _ _ _ hbn
                      have bT := hVle nd (S - 2 ^ k - 2 ^ o)
                      have hv : pvl (boN (σ 1) nd) (pqV nd (boN (σ 1) nd) nd) k S o = some (q + pqV nd (boN (σ 1) nd) nd (S - 2 ^ k - 2 ^ o)) := by
                        unfold pvl
                        rw [if_pos ⟨by omega, hbo⟩, hbn]
                      refine ⟨fun z => absurd z (oM_ne (by omega)), fun _ => ?_⟩
                      refine g_both hk hon hBW ?_
                      rw [hW1, hbn]
                      refine ⟨vin i5 (by omega) (by omega), ?_⟩
                      refine ⟨vp_in_nI (by omega) (by omega), ?_⟩
                      have vq : nI q + W 10 (nI (S - 2 ^ k) &&& ((nI 1 <<< (nI o &&& 31)) ^^^ -(nI 1))).toNatClampNeg = nI (q + pqV nd (boN (σ 1) nd) nd (S - 2 ^ k - 2 ^ o)) := by
                        rw [clN i5 (by omega), w2 _ (by omega), nI_add]
                      refine b_ne vq vS (by omega) (by omega) (fun hne => no (fun z => ?_)) (fun he => ?_)
                      · rw [z] at hv hne
                        exact hne (Option.some.inj (hv.symm.trans g2))
                      · refine p162 _ (fun hoi => ?_)
                        by_cases e : o = i
                        · rw [e]
                        · have := g4 o _ (by omega) hv
                          omega
                  · refine ⟨fun _ => no (fun z => ?_), fun z => absurd rfl z⟩
                    rw [z] at his h
                    exact h (by rw [his, if_pos f2])
              exact dn (nd - 1 - k) (nd - 1) _ (by omega) (by omega) (fun h => by omega)
      refine ⟨fun _ => ?_, fun z => absurd z (oN_ne (by omega))⟩
      exact walk _ _ (fun _ => -(nI 1)) (Nat.lt_succ_self _) hO rfl hq
  refine hX _ _ _ _ _ _ _ ?_
  refine ⟨fun h => ?_, fun h => ?_⟩
  · exact good none (fun k h => by cases h) h
  · refine g_isDeal (fun h1 => ?_) (fun h1 => ?_)
    · rw [hB.2.2.2.1.1, sIn_iff (by omega)] at h1
      obtain ⟨k, hk, e⟩ := h1
      refine ⟨fun _ => ?_, fun z => absurd z (by decide +kernel)⟩
      exact good (some k) (fun k h => by cases h; exact hk) e
    · rw [hB.2.2.2.1.1, sIn_iff (by omega)] at h1
      refine ⟨fun z => absurd rfl z, fun _ => ?_⟩
      refine hX _ _ _ _ _ _ _ ?_
      refine ⟨fun z => absurd (show nI 1 ≤ 0 from z) (by decide +kernel), fun _ => ?_⟩
      exact q0 (fun z => z.elim h h1) _ MX.th
end MPB
