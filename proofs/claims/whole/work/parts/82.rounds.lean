/-! ROUNDS BY SETS: the least way up to a street, and round -/
section RND
/-- the least of so many, if any -/
def mnO (P : Nat → Bool) (f : Nat → Nat) : Nat → Option Nat
  | 0 => none
  | i + 1 => if P i = true then some (match mnO P f i with | none => f i | some y => min y (f i)) else mnO P f i
/-- the least way from the yard over a set, up to one of it -/
def sUp (D : Nat → Nat → Nat) (E : Nat → Nat) (n : Nat) (S k : Nat) : Nat :=
  if h : S - 2 ^ k = 0 then E k else (mnO (fun j => (S - 2 ^ k).testBit j) (fun j => sUp D E n (S - 2 ^ k) j + D j k) n).getD 0
termination_by S
decreasing_by
  have := Nat.two_pow_pos k
  omega
/-- the least round -/
def sWh (D : Nat → Nat → Nat) (E : Nat → Nat) (n : Nat) (S : Nat) : Nat := (mnO (fun k => S.testBit k) (fun k => sUp D E n S k + E k) n).getD 0
theorem mnO_le {P : Nat → Bool} {f : Nat → Nat} {B : Nat} : ∀ n y, (∀ i, i < n → P i = true → f i ≤ B) → mnO P f n = some y → y ≤ B
  | 0, _, _, h => by cases h
  | i + 1, y, hf, h => by
    unfold mnO at h
    by_cases e : P i = true
    · rw [if_pos e] at h
      have h1 := hf i (by omega) e
      cases h2 : mnO P f i with
      | none => rw [h2] at h; cases h; exact h1
      | some z =>
        rw [h2] at h
        cases h
        exact Nat.le_trans (Nat.min_le_right _ _) h1
    · rw [if_neg e] at h
      exact mnO_le i y (fun j hj => hf j (by omega)) h
theorem mnO_congr {P : Nat → Bool} {f g : Nat → Nat} : ∀ n, (∀ i, i < n → P i = true → f i = g i) → mnO P f n = mnO P g n
  | 0, _ => rfl
  | i + 1, h => by
    unfold mnO
    rw [mnO_congr i (fun j hj => h j (by omega))]
    by_cases e : P i = true
    · rw [if_pos e, if_pos e, h i (by omega) e]
    · rw [if_neg e, if_neg e]
theorem mnO_some {P : Nat → Bool} {f : Nat → Nat} : ∀ n i, i < n → P i = true → ∃ y, mnO P f n = some y
  | 0, i, h, _ => by omega
  | k + 1, i, h, hp => by
    unfold mnO
    by_cases e : P k = true
    · rw [if_pos e]; exact ⟨_, rfl⟩
    · rw [if_neg e]
      exact mnO_some k i (by have : i ≠ k := fun z => e (z ▸ hp); omega) hp
theorem mnO_lower {P : Nat → Bool} {f : Nat → Nat} : ∀ n y, mnO P f n = some y → ∀ i, i < n → P i = true → y ≤ f i
  | 0, _, h => by cases h
  | k + 1, y, h => by
    intro i hi hp
    unfold mnO at h
    by_cases e : P k = true
    · rw [if_pos e] at h
      cases h2 : mnO P f k with
      | none =>
        rw [h2] at h
        cases h
        by_cases ei : i = k
        · rw [ei]; exact Nat.le_refl _
        · obtain ⟨z, hz⟩ := mnO_some (f := f) k i (by omega) hp
          rw [h2] at hz; cases hz
      | some z =>
        rw [h2] at h
        cases h
        by_cases ei : i = k
        · rw [ei]; exact Nat.min_le_right _ _
        · exact Nat.le_trans (Nat.min_le_left _ _) (mnO_lower k z h2 i (by omega) hp)
    · rw [if_neg e] at h
      exact mnO_lower k y h i (by have : i ≠ k := fun z => e (z ▸ hp); omega) hp
theorem mnO_mem {P : Nat → Bool} {f : Nat → Nat} : ∀ n y, mnO P f n = some y → ∃ i, i < n ∧ P i = true ∧ y = f i
  | 0, _, h => by cases h
  | k + 1, y, h => by
    unfold mnO at h
    by_cases e : P k = true
    · rw [if_pos e] at h
      cases h2 : mnO P f k with
      | none =>
        rw [h2] at h
        cases h
        exact ⟨k, by omega, e, rfl⟩
      | some z =>
        rw [h2] at h
        cases h
        obtain ⟨i, h3, h4, h5⟩ := mnO_mem k z h2
        by_cases c : z ≤ f k
        · exact ⟨i, by omega, h4, (Nat.min_eq_left c).trans h5⟩
        · exact ⟨k, by omega, e, Nat.min_eq_right (by omega)⟩
    · rw [if_neg e] at h
      obtain ⟨i, h3, h4, h5⟩ := mnO_mem k y h
      exact ⟨i, by omega, h4, h5⟩
variable {D : Nat → Nat → Nat} {E : Nat → Nat} {n B : Nat}
theorem sUp_le (hD : ∀ i j, i < n → j < n → D i j ≤ B) (hE : ∀ i, i < n → E i ≤ B) : ∀ S k, k < n → 0 < S → 2 ^ k ≤ S → sUp D E n S k ≤ B * S := by
  intro S
  induction S using Nat.strongRecOn with
  | _ S ih =>
    intro k hk hS h2
    have p := Nat.two_pow_pos k
    rw [sUp]
    by_cases h : S - 2 ^ k = 0
    · rw [dif_pos h]
      exact Nat.le_trans (hE k hk) (Nat.le_mul_of_pos_right _ hS)
    · rw [dif_neg h]
      cases hm : mnO (fun j => (S - 2 ^ k).testBit j) (fun j => sUp D E n (S - 2 ^ k) j + D j k) n with
      | none => exact Nat.zero_le _
      | some y =>
        refine mnO_le n y (fun i hi hp => ?_) hm
        have hp : (S - 2 ^ k).testBit i = true := hp
        have a1 := ih (S - 2 ^ k) (by omega) i hi (by omega) (Nat.ge_two_pow_of_testBit hp)
        have a2 := hD i k hi hk
        have a3 : B * (S - 2 ^ k) + B ≤ B * S := by
          rw [show B * (S - 2 ^ k) + B = B * (S - 2 ^ k + 1) from (Nat.mul_succ _ _).symm]
          exact Nat.mul_le_mul_left B (by omega)
        omega
end RND
/-- a way in plain numbers -/
def wN (m : Nat → Int32) (s o : Option Nat) : Nat := (sWay m s o).toNatClampNeg
theorem abs_nI {a b : Nat} (ha : a ≤ 9) (hb : b ≤ 9) : sAbs (nI a - nI b) = nI (a - b + (b - a)) := by
  have : ∀ a, a < 10 → ∀ b, b < 10 → sAbs (nI a - nI b) = nI (a - b + (b - a)) := by decide +kernel
  exact this a (by omega) b (by omega)
theorem bit_out : ∀ S, S < 128 → ∀ k, k < 7 → S.testBit k = true → (nI S &&& ((nI 1 <<< (nI k &&& 31)) ^^^ -(nI 1))) = nI (S - 2 ^ k) := by decide +kernel
theorem bit_is : ∀ S, S < 128 → ∀ k, k < 7 → sIs (nI S) (nI k) = (if S.testBit k = true then nI 1 else nI 0) := by decide +kernel
theorem bit_one : ∀ n, n < 8 → nI 1 <<< (nI n &&& 31) = nI (2 ^ n) := by decide +kernel
/-- the least so far, or a number that is more than all -/
def oM (b : Int32) : Option Nat → Int32
  | none => b
  | some x => nI x
theorem oM_min {b : Nat} {o : Option Nat} {x : Nat} (hb : b < 2 ^ 31) (hx : x < b) (ho : ∀ y, o = some y → y < b) : sMin (oM (nI b) o) (nI x) = oM (nI b) (some (match o with | none => x | some y => min y x)) := by
  cases o with
  | none =>
    show sMin (nI b) (nI x) = nI x
    rw [sMin_nI (by omega) (by omega), Nat.min_eq_right (by omega)]
  | some y =>
    have := ho y rfl
    exact sMin_nI (by omega) (by omega)
section WNS
variable {m : Nat → Int32} {n nc ns nd : Nat}
theorem px_ok (hB : BD m n nc ns nd) {s : Option Nat} (hs : ∀ k, s = some k → k < n) : ∃ x y, x ≤ 9 ∧ y ≤ 9 ∧ sX m s = nI x ∧ sY m s = nI y := by
  cases s with
  | none => exact ⟨0, 0, by omega, by omega, rfl, rfl⟩
  | some k =>
    obtain ⟨⟨x, h1, h2⟩, ⟨y, h3, h4⟩, -⟩ := hB.2.2.2.2.1 k (hs k rfl)
    exact ⟨x, y, h1, h3, h2, h4⟩
theorem wN_x {s o : Option Nat} {x y x2 y2 : Nat} (h1 : x ≤ 9) (h2 : y ≤ 9) (h3 : x2 ≤ 9) (h4 : y2 ≤ 9) (e1 : sX m s = nI x) (e2 : sY m s = nI y) (e3 : sX m o = nI x2) (e4 : sY m o = nI y2) : sWay m s o = nI (wN m s o) ∧ wN m s o = (x - x2 + (x2 - x)) + (y - y2 + (y2 - y)) := by
  have e : sWay m s o = nI ((x - x2 + (x2 - x)) + (y - y2 + (y2 - y))) := by
    unfold sWay
    rw [e1, e2, e3, e4, abs_nI h1 h3, abs_nI h2 h4, nI_add]
  have e5 : wN m s o = (x - x2 + (x2 - x)) + (y - y2 + (y2 - y)) := clN e (by omega)
  exact ⟨by rw [e5]; exact e, e5⟩
theorem wN_ok (hB : BD m n nc ns nd) {s o : Option Nat} (hs : ∀ k, s = some k → k < n) (ho : ∀ k, o = some k → k < n) : sWay m s o = nI (wN m s o) ∧ wN m s o ≤ 18 := by
  obtain ⟨x, y, h1, h2, h3, h4⟩ := px_ok hB hs
  obtain ⟨x2, y2, g1, g2, g3, g4⟩ := px_ok hB ho
  have h := wN_x h1 h2 g1 g2 h3 h4 g3 g4
  exact ⟨h.1, by omega⟩
theorem wN_tri (hB : BD m n nc ns nd) {s o q : Option Nat} (hs : ∀ k, s = some k → k < n) (ho : ∀ k, o = some k → k < n) (hq : ∀ k, q = some k → k < n) : wN m s q ≤ wN m s o + wN m o q := by
  obtain ⟨x, y, h1, h2, h3, h4⟩ := px_ok hB hs
  obtain ⟨x2, y2, g1, g2, g3, g4⟩ := px_ok hB ho
  obtain ⟨x3, y3, f1, f2, f3, f4⟩ := px_ok hB hq
  have a := (wN_x h1 h2 g1 g2 h3 h4 g3 g4).2
  have b := (wN_x g1 g2 f1 f2 g3 g4 f3 f4).2
  have c := (wN_x h1 h2 f1 f2 h3 h4 f3 f4).2
  omega
theorem wN_comm {s o : Option Nat} : wN m s o = wN m o s := by
  unfold wN
  rw [sWay_comm]
end WNS
def dN (m : Nat → Int32) (i j : Nat) : Nat := wN m (some i) (some j)
def zN (m : Nat → Int32) (i : Nat) : Nat := wN m none (some i)
section DNS
variable {m : Nat → Int32} {n nc ns nd : Nat}
theorem dN_ok (hB : BD m n nc ns nd) {i j : Nat} (hi : i < n) (hj : j < n) : sWay m (some i) (some j) = nI (dN m i j) ∧ dN m i j ≤ 18 := wN_ok hB (fun k h => by cases h; exact hi) (fun k h => by cases h; exact hj)
theorem zN_ok (hB : BD m n nc ns nd) {i : Nat} (hi : i < n) : sWay m none (some i) = nI (zN m i) ∧ zN m i ≤ 18 := wN_ok hB (fun k h => by cases h) (fun k h => by cases h; exact hi)
theorem zN_ok2 (hB : BD m n nc ns nd) {i : Nat} (hi : i < n) : sWay m (some i) none = nI (zN m i) := by rw [sWay_comm]; exact (zN_ok hB hi).1
/-- the least way up to a street, and round, of a yard -/
def mUp (m : Nat → Int32) (n S k : Nat) : Nat := sUp (dN m) (zN m) n S k
def mWh (m : Nat → Int32) (n S : Nat) : Nat := sWh (dN m) (zN m) n S
theorem mUp_le (hB : BD m n nc ns nd) {S k : Nat} (hk : k < n) (hS : S < 128) (h2 : S.testBit k = true) : mUp m n S k ≤ 2286 := by
  have p := Nat.ge_two_pow_of_testBit h2
  have p2 := Nat.two_pow_pos k
  have := sUp_le (D := dN m) (E := zN m) (n := n) (B := 18) (fun i j hi hj => (dN_ok hB hi hj).2) (fun i hi => (zN_ok hB hi).2) S k hk (by omega) p
  unfold mUp
  omega
theorem mWh0 : mWh m n 0 = 0 := by
  have : ∀ k, mnO (fun k => (0 : Nat).testBit k) (fun k => sUp (dN m) (zN m) n 0 k + zN m k) k = none := by
    intro k
    induction k with
    | zero => rfl
    | succ k ih =>
      unfold mnO
      rw [if_neg (by rw [Nat.zero_testBit]; exact Bool.false_ne_true), ih]
  unfold mWh sWh
  rw [this]
  rfl
end DNS
