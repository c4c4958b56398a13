/-! SETS AND WHAT WAITS -/
theorem bit_drop : ∀ K, K < 128 → ∀ V, V < 128 → K &&& V ≠ K → ∃ s, s < 7 ∧ K.testBit s = true ∧ (K - 2 ^ s) &&& V = K &&& V := by decide +kernel
theorem mWh_and {m : Nat → Int32} {n nc ns nd V : Nat} (hB : BD m n nc ns nd) (hV : V < 128) : ∀ K, K < 2 ^ n → mWh m n (K &&& V) ≤ mWh m n K := by
  have hn := hB.1.2
  have h2n : 2 ^ n ≤ 128 := Nat.pow_le_pow_right (by omega) hn
  intro K
  induction K using Nat.strongRecOn with
  | _ K ih =>
    intro hK
    by_cases e : K &&& V = K
    · rw [e]; exact Nat.le_refl _
    · obtain ⟨s, hs, hb, h2⟩ := bit_drop K (by omega) V hV e
      have ps := Nat.two_pow_pos s
      have gs := Nat.ge_two_pow_of_testBit hb
      have hsn : s < n := (Nat.pow_lt_pow_iff_right (by omega)).mp (show 2 ^ s < 2 ^ n by omega)
      have h3 := ih (K - 2 ^ s) (by omega) (by omega)
      rw [h2] at h3
      exact Nat.le_trans h3 (mWh_less hB hK hsn hb)
theorem sWO_and {m : Nat → Int32} {K V : Nat} (hK : K < 128) : ∀ k, k ≤ 7 → (∀ i, i < k → V.testBit i = false → m (22 + 9 * i) = nI 0) → sWO m (nI (K &&& V)) k = sWO m (nI K) k
  | 0, _, _ => rfl
  | k + 1, h7, h => by
    have ih := sWO_and (m := m) (K := K) (V := V) hK k (by omega) (fun i hi => h i (by omega))
    have hKV : K &&& V < 128 := Nat.lt_of_le_of_lt Nat.and_le_left hK
    unfold sWO
    rw [ih, bit_is K hK k (by omega), bit_is (K &&& V) hKV k (by omega), Nat.testBit_and]
    cases hv : V.testBit k with
    | true => rw [Bool.and_true]
    | false =>
      rw [Bool.and_false, if_neg Bool.false_ne_true, if_pos (show nI 0 = 0 from rfl), h k (by omega) hv]
      cases K.testBit k with
      | false => rw [if_neg Bool.false_ne_true, if_pos (show nI 0 = 0 from rfl)]
      | true =>
        rw [if_pos rfl, if_neg (show ¬ nI 1 = 0 by decide +kernel)]
        exact (Int32.add_zero _).symm
theorem wS_and {m : Nat → Int32} {n nc ns nd K V : Nat} (hB : BD m n nc ns nd) (hK : K < 128) (h : ∀ i, i < n → V.testBit i = false → m (22 + 9 * i) = nI 0) : wS m n (K &&& V) = wS m n K := by
  unfold wS
  rw [sWO_and hK n hB.1.2 h]
/-- a set with streets where nothing waits is not taken -/
theorem sBt_out {m : Nat → Int32} {n nc ns nd g K V : Nat} (hB : BD m n nc ns nd) (hK : K < 2 ^ n) (hV : V < 128) (h : ∀ i, i < n → V.testBit i = false → m (22 + 9 * i) = nI 0) (hs : K &&& V ≠ K) : sBt m n g (K + 1) = sBt m n g K := by
  have h2n : 2 ^ n ≤ 128 := Nat.pow_le_pow_right (by omega) hB.1.2
  have hl : K &&& V ≤ K := Nat.and_le_left
  exact sBt_skip (K' := K &&& V) (by omega) (wS_and hB (by omega) h) (mWh_and hB hV K hK)
