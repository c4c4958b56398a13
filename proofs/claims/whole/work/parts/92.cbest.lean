/-! THE CLASS: the best round -/
theorem bit_no : ∀ K, K < 128 → ∀ V, V < 128 → (decide ((nI K &&& (nI V ^^^ -(nI 1))) = 0) = decide (K &&& V = K)) := by decide +kernel
def wsN (m : Nat → Int32) : Nat → Nat
  | 0 => 0
  | k + 1 => if nI 0 < m (22 + 9 * k) then wsN m k ||| 2 ^ k else wsN m k
theorem wsN_lt {m : Nat → Int32} : ∀ k, wsN m k < 2 ^ k
  | 0 => by show 0 < 1; omega
  | k + 1 => by
    have h := wsN_lt (m := m) k
    have h1 : 2 ^ k < 2 ^ (k + 1) := Nat.pow_lt_pow_right (by omega) (by omega)
    unfold wsN
    split
    · exact Nat.or_lt_two_pow (by omega) h1
    · omega
theorem wsN_bit {m : Nat → Int32} : ∀ k i, i < k → (wsN m k).testBit i = decide (nI 0 < m (22 + 9 * i))
  | 0, i, h => by omega
  | k + 1, i, h => by
    have hl := wsN_lt (m := m) k
    unfold wsN
    by_cases e : i = k
    · subst e
      split
      · rename_i c
        rw [Nat.testBit_or, Nat.testBit_two_pow_self, Bool.or_true, decide_eq_true c]
      · rename_i c
        rw [Nat.testBit_lt_two_pow hl, decide_eq_false c]
    · have ih := wsN_bit (m := m) k i (by omega)
      split
      · rw [Nat.testBit_or, ih, Nat.testBit_two_pow, show decide (k = i) = false from decide_eq_false (fun z => e z.symm), Bool.or_false]
      · exact ih
theorem sWS_nI {m : Nat → Int32} : ∀ k, k ≤ 7 → sWS m k = nI (wsN m k)
  | 0, _ => rfl
  | k + 1, h => by
    have ih := sWS_nI (m := m) k (by omega)
    have hl := wsN_lt (m := m) k
    have h2 : 2 ^ k ≤ 2 ^ 7 := Nat.pow_le_pow_right (by omega) (by omega)
    unfold sWS wsN
    rw [ih]
    split
    · exact bit_or _ (by omega) k (by omega)
    · rfl
theorem sBt_end {m : Nat → Int32} {n nc ns nd g V : Nat} (hB : BD m n nc ns nd) (hV : V < 128) (h : ∀ i, i < n → V.testBit i = false → m (22 + 9 * i) = nI 0) : ∀ j, V + 1 + j ≤ 2 ^ n → sBt m n g (V + 1 + j) = sBt m n g (V + 1)
  | 0, _ => rfl
  | j + 1, hj => by
    rw [← Nat.add_assoc, sBt_out hB (show V + 1 + j < 2 ^ n by omega) hV h (fun z => by have : (V + 1 + j) &&& V ≤ V := Nat.and_le_right; omega)]
    exact sBt_end hB hV h j (by omega)
theorem sWO_0 {m : Nat → Int32} : ∀ k, k ≤ 7 → sWO m (nI 0) k = nI 0
  | 0, _ => rfl
  | k + 1, h => by
    unfold sWO
    rw [bit_is 0 (by omega) k (by omega), Nat.zero_testBit, if_neg (Bool.false_ne_true), if_pos (show nI 0 = 0 from rfl)]
    exact sWO_0 k (by omega)
theorem wS0 {m : Nat → Int32} {n : Nat} (hn : n ≤ 7) : wS m n 0 = 0 := clN (sWO_0 n hn) (by omega)
section CBE
variable {d : Nat} {σ : mSg} {m : Nat → Int32} {Q : mPst} {n nc ns nd : Nat}
theorem c_bestSet {g : Nat} (hg : g ≤ 99) (hB : BD m n nc ns nd) (hR : RR σ m) (hc : RCh σ m n) (hq : ∀ σ', RMe σ m n σ' → Q (.inl (some (.int (nI (sBt m n g (2 ^ n)))))) sh_6_7 σ') : mD (d + 5) 291 [.ref 0, .ref 4, .int (nI g)] sh_6_7 σ Q := by
  have hn := hB.1.2
  have h2n : 2 ^ n ≤ 128 := Nat.pow_le_pow_right (by omega) hn
  refine ⟨rfl, fun X hX => ?_⟩
  refine hX _ _ _ _ _ _ _ ?_
  refine c_measure hB hR hc (fun σ1 h1 => ?_)
  have hR1 : RR σ1 m := RS.congr hR (fun c hc => by
    show σ1 (mgl [(4, 9)] c) = σ (mgl [(4, 9)] c)
    rw [mgl9 hc]
    exact h1.1 _ (by omega) (by omega) (by omega))
  have hl := wsN_lt (m := m) n
  have eV := sWS_nI (m := m) n hn
  have hz : ∀ i, i < n → (wsN m n).testBit i = false → m (22 + 9 * i) = nI 0 := by
    intro i hi hb
    rw [wsN_bit n i hi] at hb
    obtain ⟨-, -, ⟨x, h3, h4⟩, -⟩ := hB.2.2.2.2.1 i hi
    have hb := of_decide_eq_false hb
    rw [h4] at hb ⊢
    by_cases x0 : x = 0
    · rw [x0]
    · exact absurd (nI_lt (show 0 < x by omega) (by omega)) hb
  generalize wsN m n = V at hl eV hz
  have loop : ∀ r K W, V + 1 - K = r → K ≤ V + 1 → 0 < K → W = σ1 → X 19 [some (.ref 0), some (.ref 4), some (.int (nI g)), some (.int (nI V)), some (.int (nI (sBt m n g K))), some (.int (nI (wS m n (sBt m n g K)))), some (.int (nI K)), none] [] sh_6_7 W 0 0 := by
    intro r
    induction r with
    | zero =>
      intro K W hr hK hK0 hW
      have eK : K = V + 1 := by omega
      subst hW
      rw [eK]
      refine hX _ _ _ _ _ _ _ ?_
      refine b_gt rfl rfl (by omega) (by omega) (fun _ => ?_) (fun h => by omega)
      refine hX _ _ _ _ _ _ _ ?_
      have := sBt_end (g := g) hB (show V < 128 by omega) hz (2 ^ n - (V + 1)) (by omega)
      rw [show V + 1 + (2 ^ n - (V + 1)) = 2 ^ n by omega] at this
      rw [← this]
      exact hq _ h1
    | succ r ih =>
      intro K W hr hK hK0 hW
      have h9 := fun W hW => ih (K + 1) W (by omega) (by omega) (by omega) hW
      have hble := sBt_le (m := m) (n := n) (g := g) K
      have bK := mWh_le hB (show K < 2 ^ n by omega)
      have wK := wS_ok (S := K) hB
      have hno := bit_no K (by omega) V (by omega)
      have hout := fun hs => sBt_out (g := g) (K := K) (V := V) hB (by omega) (by omega) hz hs
      have hdef : sBt m n g (K + 1) = (if mWh m n K ≤ g ∧ (wS m n (sBt m n g K) < wS m n K ∨ (wS m n K = wS m n (sBt m n g K) ∧ mWh m n K < mWh m n (sBt m n g K))) then K else sBt m n g K) := rfl
      generalize sBt m n g (K + 1) = b2 at h9 hout hdef
      generalize sBt m n g K = b at hble hout hdef ⊢
      have bb := mWh_le hB (show b < 2 ^ n by omega)
      have wb := wS_ok (S := b) hB
      have lw : ∀ W, W = σ1 → ∀ S, S < 2 ^ n → W 1 (nI S).toNatClampNeg = nI (mWh m n S) := fun W hW S hS => by rw [nI_clamp (by omega), hW]; exact h1.2.2.1 S hS
      have keep : ∀ W, W = σ1 → b2 = b → X 92 [some (.ref 0), some (.ref 4), some (.int (nI g)), some (.int (nI V)), some (.int (nI b)), some (.int (nI (wS m n b))), some (.int (nI K)), none] [] sh_6_7 W 0 0 := by
        intro W hW e
        refine hX _ _ _ _ _ _ _ ?_
        have h9 := h9 W hW
        rw [e, ← nI_1 K] at h9
        exact h9
      have tk : ∀ W x, W = σ1 → x = nI (wS m n K) → (mWh m n K ≤ g ∧ (wS m n b < wS m n K ∨ (wS m n K = wS m n b ∧ mWh m n K < mWh m n b))) → X 84 [some (.ref 0), some (.ref 4), some (.int (nI g)), some (.int (nI V)), none, none, some (.int (nI K)), some (.int x)] [] sh_6_7 W 0 0 := by
        intro W x hW hx h
        refine hX _ _ _ _ _ _ _ ?_
        refine hX _ _ _ _ _ _ _ ?_
        have h9 := h9 W hW
        rw [hdef, if_pos h, ← nI_1 K, ← hx] at h9
        exact h9
      refine hX _ _ _ _ _ _ _ ?_
      refine b_gt rfl rfl (by omega) (by omega) (fun h => by omega) (fun _ => ?_)
      by_cases hs : K &&& V = K
      · rw [decide_eq_true hs] at hno
        refine ⟨fun z => absurd (of_decide_eq_true hno) z, fun _ => ?_⟩
        refine ⟨vp_in_nI (n := K) (by omega) (by omega), ?_⟩
        refine b_gt (lw W hW K (by omega)) rfl (by omega) (by omega) (fun h2 => keep W hW (by rw [hdef, if_neg (fun z => by omega)])) (fun h2 => ?_)
        refine c_waitsOfSet hn hB.1.1 (rs4 hW hR1) ?_
        refine b_gt wK.1 rfl (by omega) (by omega) (fun h3 => tk _ _ (rn4 hW) wK.1 ⟨h2, Or.inl h3⟩) (fun h3 => ?_)
        refine b_ne wK.1 rfl (by omega) (by omega) (fun h4 => keep _ (rn4 hW) (by rw [hdef, if_neg (fun z => by omega)])) (fun h4 => ?_)
        refine ⟨vp_in_nI (n := K) (by omega) (by omega), ?_⟩
        refine ⟨vp_in_nI (n := b) (by omega) (by omega), ?_⟩
        refine b_ge (lw _ (rn4 hW) K (by omega)) (lw _ (rn4 hW) b (by omega)) (by omega) (by omega) (fun h5 => keep _ (rn4 hW) (by rw [hdef, if_neg (fun z => by omega)])) (fun h5 => ?_)
        exact tk _ _ (rn4 hW) wK.1 ⟨h2, Or.inr ⟨h4, h5⟩⟩
      · rw [decide_eq_false hs] at hno
        refine ⟨fun _ => ?_, fun z => absurd z (of_decide_eq_false hno)⟩
        exact keep W hW (hout hs)
  refine c_waitingSet hn hB.1.1 (rs4 rfl hR1) ?_
  have h9 := fun W hW => loop _ 1 W rfl (by omega) (by omega) hW
  rw [sBt1, wS0 hn, ← eV] at h9
  exact h9 _ (rn4 rfl)
end CBE
