/-! THE MODEL: the best round -/
theorem df_int {a b : Nat} (ha : a < 2 ^ 30) (hb : b < 2 ^ 30) : (nI a - nI b).toInt = (a : Int) - b := by
  rw [Int32.toInt_sub, nI_toInt (by omega), nI_toInt (by omega)]
  exact Int.bmod_eq_of_le (by omega) (by omega)
theorem df_pos {a b : Nat} (ha : a < 2 ^ 30) (hb : b < 2 ^ 30) : 0 < nI a - nI b ↔ b < a := by
  rw [Int32.lt_iff_toInt_lt, df_int ha hb]
  show (0 : Int) < _ ↔ _
  omega
theorem df_eq {a b : Nat} (ha : a < 2 ^ 30) (hb : b < 2 ^ 30) : nI a - nI b = 0 ↔ a = b := by
  rw [← Int32.toInt_inj, df_int ha hb]
  show _ = (0 : Int) ↔ _
  omega
/-- what waits in a set, as a plain number -/
def wS (m : Nat → Int32) (n S : Nat) : Nat := (sWO m (nI S) n).toNatClampNeg
theorem sWO_ok {m : Nat → Int32} {n nc ns nd : Nat} {set : Int32} (hB : BD m n nc ns nd) : ∀ k, k ≤ n → ∃ w, w ≤ 99 * k ∧ sWO m set k = nI w
  | 0, _ => ⟨0, by omega, rfl⟩
  | k + 1, h => by
    obtain ⟨w, h1, h2⟩ := sWO_ok (set := set) hB k (by omega)
    obtain ⟨-, -, ⟨x, h3, h4⟩, -⟩ := hB.2.2.2.2.1 k (by omega)
    unfold sWO
    by_cases e : sIs set (nI k) = 0
    · rw [if_pos e]; exact ⟨w, by omega, h2⟩
    · rw [if_neg e, h2, h4, nI_add]; exact ⟨w + x, by omega, rfl⟩
theorem wS_ok {m : Nat → Int32} {n nc ns nd S : Nat} (hB : BD m n nc ns nd) : sWO m (nI S) n = nI (wS m n S) ∧ wS m n S ≤ 693 := by
  have hn := hB.1.2
  obtain ⟨w, h1, h2⟩ := sWO_ok (set := nI S) hB n (Nat.le_refl _)
  have e : wS m n S = w := clN h2 (by omega)
  exact ⟨by rw [e]; exact h2, by omega⟩
/-- the best of the sets below one -/
def sBt (m : Nat → Int32) (n g : Nat) : Nat → Nat
  | 0 => 0
  | K + 1 => if mWh m n K ≤ g ∧ (wS m n (sBt m n g K) < wS m n K ∨ (wS m n K = wS m n (sBt m n g K) ∧ mWh m n K < mWh m n (sBt m n g K))) then K else sBt m n g K
theorem sBt_le {m : Nat → Int32} {n g : Nat} : ∀ K, sBt m n g K ≤ K
  | 0 => Nat.le_refl _
  | K + 1 => by
    unfold sBt
    have := sBt_le (m := m) (n := n) (g := g) K
    split <;> omega
theorem sBt1 {m : Nat → Int32} {n g : Nat} : sBt m n g 1 = 0 := by
  have := sBt_le (m := m) (n := n) (g := g) 0
  unfold sBt
  split
  · rfl
  · omega
theorem mWh_le {m : Nat → Int32} {n nc ns nd S : Nat} (hB : BD m n nc ns nd) (hS : S < 2 ^ n) : mWh m n S ≤ 2304 := by
  have hn := hB.1.2
  have h2n : 2 ^ n ≤ 128 := Nat.pow_le_pow_right (by omega) hn
  by_cases h : S = 0
  · rw [h, mWh0]; omega
  · obtain ⟨k, hk, hb, e⟩ := sWh_min (D := dN m) (E := zN m) hn hS h
    have b1 := mUp_le hB hk (show S < 128 by omega) hb
    have b2 := (zN_ok hB hk).2
    unfold mUp at b1
    unfold mWh
    omega
section MBE
variable {d : Nat} {σ : mSg} {Q : mPst} {n nc ns nd : Nat}
theorem g_bestRound {c g : Nat} (hc : c < 3) (hB : BD (σ 1) n nc ns nd) (hg : σ 1 (84 + 2 * c) = nI g) (hg2 : g ≤ 99) (hq : ∀ σ', (∀ c, c ≠ 7 → c ≠ 8 → σ' c = σ c) → Q (.inl (some (.int (nI (sBt (σ 1) n g (2 ^ n)))))) sh_10 σ') : mD (d + 4) 151 [.ref 0, .int (nI c)] sh_10 σ Q := by
  have hn := hB.1.2
  have h2n : 2 ^ n ≤ 128 := Nat.pow_le_pow_right (by omega) hn
  refine ⟨rfl, fun X hX => ?_⟩
  refine hX _ _ _ _ _ _ _ ?_
  refine g_allLoops hB (fun W hW => ?_)
  have e1 : W 1 = σ 1 := hW.1 1 (by omega) (by omega)
  have hBW : BD (W 1) n nc ns nd := by rw [e1]; exact hB
  have e4 : nI 1 <<< (W 1 3 &&& 31) = nI (2 ^ n) := by rw [hBW.1.1]; exact bit_one n (by omega)
  have hgW : W 1 (84 + 2 * c) = nI g := by rw [e1]; exact hg
  have loop : ∀ r K, 2 ^ n - K = r → K ≤ 2 ^ n → 0 < K → X 8 [some (.ref 0), some (.int (nI c)), some (.int (nI (sBt (σ 1) n g K))), some (.int (nI K)), none] [] sh_10 W 0 0 := by
    intro r
    induction r with
    | zero =>
      intro K hr hK hK0
      have eK : K = 2 ^ n := by omega
      rw [eK]
      refine hX _ _ _ _ _ _ _ ?_
      refine ⟨vp_in_nI (n := 3) (by omega) (by omega), ?_⟩
      refine b_ge rfl e4 (by omega) (by omega) (fun _ => ?_) (fun h => by omega)
      refine hX _ _ _ _ _ _ _ ?_
      exact hq _ hW.1
    | succ r ih =>
      intro K hr hK hK0
      have h9 := ih (K + 1) (by omega) (by omega) (by omega)
      have hble := sBt_le (m := σ 1) (n := n) (g := g) K
      have lK : W 8 (nI K).toNatClampNeg = nI (mWh (σ 1) n K) := by rw [nI_clamp (by omega)]; exact hW.2.1 K (by omega)
      have bK := mWh_le hB (show K < 2 ^ n by omega)
      have wK := wS_ok (S := K) hB
      unfold sBt at h9
      generalize hb : sBt (σ 1) n g K = b at h9 hble ⊢
      have lb : W 8 (nI b).toNatClampNeg = nI (mWh (σ 1) n b) := by rw [nI_clamp (by omega)]; exact hW.2.1 b (by omega)
      have bb := mWh_le hB (show b < 2 ^ n by omega)
      have wb := wS_ok (S := b) hB
      have keep : ¬ (mWh (σ 1) n K ≤ g ∧ (wS (σ 1) n b < wS (σ 1) n K ∨ (wS (σ 1) n K = wS (σ 1) n b ∧ mWh (σ 1) n K < mWh (σ 1) n b))) → X 77 [some (.ref 0), some (.int (nI c)), some (.int (nI b)), some (.int (nI K)), none] [] sh_10 W 0 0 := by
        intro h
        refine hX _ _ _ _ _ _ _ ?_
        rw [if_neg h, ← nI_1 K] at h9
        exact h9
      have tk : (mWh (σ 1) n K ≤ g ∧ (wS (σ 1) n b < wS (σ 1) n K ∨ (wS (σ 1) n K = wS (σ 1) n b ∧ mWh (σ 1) n K < mWh (σ 1) n b))) → X 75 [some (.ref 0), some (.int (nI c)), none, some (.int (nI K)), none] [] sh_10 W 0 0 := by
        intro h
        refine hX _ _ _ _ _ _ _ ?_
        refine hX _ _ _ _ _ _ _ ?_
        rw [if_pos h, ← nI_1 K] at h9
        exact h9
      have eK : sWO (W 1) (nI K) n = nI (wS (σ 1) n K) := by rw [e1]; exact wK.1
      have eb : sWO (W 1) (nI b) n = nI (wS (σ 1) n b) := by rw [e1]; exact wb.1
      refine hX _ _ _ _ _ _ _ ?_
      refine ⟨vp_in_nI (n := 3) (by omega) (by omega), ?_⟩
      refine b_ge rfl e4 (by omega) (by omega) (fun h => by omega) (fun _ => ?_)
      refine ⟨vp_in_nI (n := K) (by omega) (by omega), ?_⟩
      refine g_goesFar hc ?_
      refine b_le lK hgW (by omega) (by omega) (fun h1 => ?_) (fun h1 => keep (fun z => by omega))
      refine hX _ _ _ _ _ _ _ ?_
      refine g_waitsOf hBW ?_
      refine g_waitsOf hBW ?_
      refine ⟨fun h2 => ?_, fun h2 => ⟨fun h3 => ?_, fun h3 => ?_⟩⟩
      · have h2 : 0 < sWO (W 1) (nI K) n - sWO (W 1) (nI b) n := h2
        rw [eK, eb, df_pos (by omega) (by omega)] at h2
        exact tk ⟨h1, Or.inl h2⟩
      · have h2 : ¬ 0 < sWO (W 1) (nI K) n - sWO (W 1) (nI b) n := h2
        have h3 : ¬ sWO (W 1) (nI K) n - sWO (W 1) (nI b) n = 0 := h3
        rw [eK, eb, df_pos (by omega) (by omega)] at h2
        rw [eK, eb, df_eq (by omega) (by omega)] at h3
        exact keep (fun z => by omega)
      · have h3 : sWO (W 1) (nI K) n - sWO (W 1) (nI b) n = 0 := h3
        rw [eK, eb, df_eq (by omega) (by omega)] at h3
        refine ⟨vp_in_nI (n := K) (by omega) (by omega), ?_⟩
        refine ⟨vp_in_nI (n := b) (by omega) (by omega), ?_⟩
        refine b_ge lK lb (by omega) (by omega) (fun h4 => keep (fun z => by omega)) (fun h4 => ?_)
        exact tk ⟨h1, Or.inr ⟨h3, h4⟩⟩
  have h9 := loop _ 1 rfl (Nat.one_le_two_pow) (by omega)
  rw [sBt1] at h9
  exact h9
end MBE
