/-! ROUNDS: a street less makes no round longer -/
theorem bit_sub : ∀ S, S < 128 → ∀ k, k < 7 → S.testBit k = true → ∀ i, i < 7 → (S - 2 ^ k).testBit i = (S.testBit i && decide (i ≠ k)) := by decide +kernel
theorem bit_sub1 {S k i : Nat} (hS : S < 128) (hk : k < 7) (hi : i < 7) (h : S.testBit k = true) (h2 : S.testBit i = true) (h3 : i ≠ k) : (S - 2 ^ k).testBit i = true := by
  rw [bit_sub S hS k hk h i hi, h2, Bool.true_and]
  exact decide_eq_true h3
theorem bit_sub2 {S k i : Nat} (hS : S < 128) (hk : k < 7) (hi : i < 7) (h : S.testBit k = true) (h2 : (S - 2 ^ k).testBit i = true) : S.testBit i = true ∧ i ≠ k := by
  rw [bit_sub S hS k hk h i hi, Bool.and_eq_true, decide_eq_true_eq] at h2
  exact h2
section TOU
variable {D : Nat → Nat → Nat} {E : Nat → Nat} {n : Nat}
theorem sUp_one {S k : Nat} (h : S - 2 ^ k = 0) : sUp D E n S k = E k := by rw [sUp, dif_pos h]
theorem sUp_low {S k j : Nat} (h : S - 2 ^ k ≠ 0) (hj : j < n) (hb : (S - 2 ^ k).testBit j = true) : sUp D E n S k ≤ sUp D E n (S - 2 ^ k) j + D j k := by
  rw [sUp, dif_neg h]
  obtain ⟨y, hy⟩ := mnO_some (P := fun j => (S - 2 ^ k).testBit j) (f := fun j => sUp D E n (S - 2 ^ k) j + D j k) n j hj hb
  rw [hy]
  exact mnO_lower n y hy j hj hb
theorem sUp_min {S k : Nat} (hn : n ≤ 7) (hS : S < 2 ^ n) (h : S - 2 ^ k ≠ 0) : ∃ j, j < n ∧ (S - 2 ^ k).testBit j = true ∧ sUp D E n S k = sUp D E n (S - 2 ^ k) j + D j k := by
  rw [sUp, dif_neg h]
  obtain ⟨i, hi, hb⟩ := bit_ex n (by omega) (S - 2 ^ k) (Nat.lt_of_le_of_lt (Nat.sub_le _ _) hS) (by omega)
  obtain ⟨y, hy⟩ := mnO_some (P := fun j => (S - 2 ^ k).testBit j) (f := fun j => sUp D E n (S - 2 ^ k) j + D j k) n i hi hb
  obtain ⟨j, h1, h2, h3⟩ := mnO_mem n y hy
  rw [hy]
  exact ⟨j, h1, h2, h3⟩
theorem sWh_low {S k : Nat} (hk : k < n) (hb : S.testBit k = true) : sWh D E n S ≤ sUp D E n S k + E k := by
  unfold sWh
  obtain ⟨y, hy⟩ := mnO_some (P := fun k => S.testBit k) (f := fun k => sUp D E n S k + E k) n k hk hb
  rw [hy]
  exact mnO_lower n y hy k hk hb
theorem sWh_min {S : Nat} (hn : n ≤ 7) (hS : S < 2 ^ n) (h : S ≠ 0) : ∃ k, k < n ∧ S.testBit k = true ∧ sWh D E n S = sUp D E n S k + E k := by
  unfold sWh
  obtain ⟨i, hi, hb⟩ := bit_ex n (by omega) S (by omega) (by omega)
  obtain ⟨y, hy⟩ := mnO_some (P := fun k => S.testBit k) (f := fun k => sUp D E n S k + E k) n i hi hb
  obtain ⟨j, h1, h2, h3⟩ := mnO_mem n y hy
  rw [hy]
  exact ⟨j, h1, h2, h3⟩
theorem sUp_less (hn : n ≤ 7) (hD : ∀ i j k, i < n → j < n → k < n → D i k ≤ D i j + D j k) (hE : ∀ j k, j < n → k < n → E k ≤ E j + D j k) : ∀ S s k, S < 2 ^ n → s < n → k < n → S.testBit s = true → S.testBit k = true → k ≠ s → sUp D E n (S - 2 ^ s) k ≤ sUp D E n S k := by
  have h2n : 2 ^ n ≤ 128 := Nat.pow_le_pow_right (by omega) hn
  intro S
  induction S using Nat.strongRecOn with
  | _ S ih =>
    intro s k hS hs hk hbs hbk hne
    have ps := Nat.two_pow_pos s
    have pk := Nat.two_pow_pos k
    have gs := Nat.ge_two_pow_of_testBit hbs
    have gk := Nat.ge_two_pow_of_testBit hbk
    have a1 : (S - 2 ^ k).testBit s = true := bit_sub1 (by omega) (by omega) (by omega) hbk hbs (fun z => hne z.symm)
    have g1 := Nat.ge_two_pow_of_testBit a1
    have b1 : (S - 2 ^ s).testBit k = true := bit_sub1 (by omega) (by omega) (by omega) hbs hbk hne
    have sw : S - 2 ^ s - 2 ^ k = S - 2 ^ k - 2 ^ s := by omega
    obtain ⟨j, hj, hbj, ej⟩ := sUp_min (D := D) (E := E) (k := k) hn hS (show S - 2 ^ k ≠ 0 by omega)
    by_cases ejs : j = s
    · subst ejs
      by_cases h0 : S - 2 ^ k - 2 ^ j = 0
      · rw [sUp_one h0] at ej
        rw [sUp_one (show S - 2 ^ j - 2 ^ k = 0 by omega), ej]
        exact hE j k hj hk
      · obtain ⟨i, hi, hbi, ei⟩ := sUp_min (D := D) (E := E) (k := j) hn (show S - 2 ^ k < 2 ^ n by omega) h0
        have l := sUp_low (D := D) (E := E) (S := S - 2 ^ j) (k := k) (by omega) hi (by rw [sw]; exact hbi)
        rw [sw] at l
        have tr := hD i j k hi hj hk
        omega
    · have i1 := ih (S - 2 ^ k) (by omega) s j (by omega) hs hj a1 hbj ejs
      have hbj2 : (S - 2 ^ k - 2 ^ s).testBit j = true := bit_sub1 (by omega) (by omega) (by omega) a1 hbj ejs
      have gj := Nat.ge_two_pow_of_testBit hbj2
      have pj := Nat.two_pow_pos j
      have l := sUp_low (D := D) (E := E) (S := S - 2 ^ s) (k := k) (by omega) hj (by rw [sw]; exact hbj2)
      rw [sw] at l
      omega
theorem sWh_less (hn : n ≤ 7) (hD : ∀ i j k, i < n → j < n → k < n → D i k ≤ D i j + D j k) (hE : ∀ j k, j < n → k < n → E k ≤ E j + D j k) (hE2 : ∀ i s, i < n → s < n → E i ≤ D i s + E s) {S s : Nat} (hS : S < 2 ^ n) (hs : s < n) (hbs : S.testBit s = true) : sWh D E n (S - 2 ^ s) ≤ sWh D E n S := by
  have h2n : 2 ^ n ≤ 128 := Nat.pow_le_pow_right (by omega) hn
  have ps := Nat.two_pow_pos s
  have gs := Nat.ge_two_pow_of_testBit hbs
  obtain ⟨k, hk, hbk, ek⟩ := sWh_min (D := D) (E := E) hn hS (by omega)
  by_cases e : k = s
  · subst e
    by_cases h0 : S - 2 ^ k = 0
    · have : sWh D E n (S - 2 ^ k) = 0 := by
        rw [h0]
        unfold sWh
        have : ∀ q, mnO (fun k => (0 : Nat).testBit k) (fun k => sUp D E n 0 k + E k) q = none := by
          intro q
          induction q with
          | zero => rfl
          | succ q ih =>
            unfold mnO
            rw [if_neg (by rw [Nat.zero_testBit]; exact Bool.false_ne_true), ih]
        rw [this]
        rfl
      omega
    · obtain ⟨i, hi, hbi, ei⟩ := sUp_min (D := D) (E := E) (k := k) hn hS h0
      have l := sWh_low (D := D) (E := E) hi hbi
      have tr := hE2 i k hi hk
      omega
  · have l1 := sUp_less hn hD hE S s k hS hs hk hbs hbk e
    have l2 := sWh_low (D := D) (E := E) (S := S - 2 ^ s) hk (bit_sub1 (by omega) (by omega) (by omega) hbs hbk e)
    omega
end TOU
theorem mWh_less {m : Nat → Int32} {n nc ns nd S s : Nat} (hB : BD m n nc ns nd) (hS : S < 2 ^ n) (hs : s < n) (hb : S.testBit s = true) : mWh m n (S - 2 ^ s) ≤ mWh m n S := by
  have so : ∀ {i : Nat}, i < n → ∀ k, some i = some k → k < n := fun hi k h => by cases h; exact hi
  have no : ∀ k, (none : Option Nat) = some k → k < n := fun k h => by cases h
  have hD : ∀ i j k, i < n → j < n → k < n → dN m i k ≤ dN m i j + dN m j k := fun i j k hi hj hk => wN_tri hB (so hi) (so hj) (so hk)
  have hE : ∀ j k, j < n → k < n → zN m k ≤ zN m j + dN m j k := fun j k hj hk => wN_tri hB no (so hj) (so hk)
  have hE2 : ∀ i s, i < n → s < n → zN m i ≤ dN m i s + zN m s := by
    intro i s hi hs
    have h1 := hE s i hs hi
    have h2 : dN m s i = dN m i s := wN_comm
    omega
  have h := sWh_less (D := dN m) (E := zN m) hB.1.2 hD hE hE2 hS hs hb
  unfold mWh
  exact h
