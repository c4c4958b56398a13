/-! THE CLASS: State, by the model's row -/
theorem qi {Q : mPst} {sh : List mSh} {σ : mSg} {v w : Int32} (e : v = w) (h : Q (.inl (some (.int v))) sh σ) : Q (.inl (some (.int w))) sh σ := e ▸ h
theorem rqx : ∀ s, s < 7 → rp 1 (3 * s) = some (20 + 9 * s) := by decide +kernel
theorem rqy : ∀ s, s < 7 → rp 1 (3 * s + 1) = some (21 + 9 * s) := by decide +kernel
theorem rqw : ∀ s, s < 7 → rp 1 (3 * s + 2) = some (22 + 9 * s) := by decide +kernel
theorem rqm : ∀ s, s < 7 → ∀ g, g < 7 → 1 ≤ g → rp 2 (6 * s + g - 1) = some (22 + 9 * s + g) := by decide +kernel
theorem rqc : ∀ c, c < 3 → rp 3 (2 * c) = some (83 + 2 * c) ∧ rp 3 (2 * c + 1) = some (84 + 2 * c) := by decide +kernel
theorem rqd : ∀ k, k < 6 → ∀ w, w < 5 → rp 5 (5 * k + w) = some (93 + 5 * k + w) := by decide +kernel
theorem rqh : ∀ g, g < 7 → 1 ≤ g → rp 6 g = some (13 + g) := by decide +kernel
/-! what both say of a row of numbers -/
def sX (m : Nat → Int32) : Option Nat → Int32
  | none => nI 0
  | some s => m (20 + 9 * s)
def sY (m : Nat → Int32) : Option Nat → Int32
  | none => nI 0
  | some s => m (21 + 9 * s)
def sAbs (x : Int32) : Int32 := if 0 ≤ x then x else 0 - x
def sWay (m : Nat → Int32) (s o : Option Nat) : Int32 := sAbs (sX m s - sX m o) + sAbs (sY m s - sY m o)
def sLd (m : Nat → Int32) (s : Nat) : Nat → Int32
  | 0 => nI 0
  | k + 1 => sLd m s k + m (23 + 9 * s + k)
def sLoad (m : Nat → Int32) (s : Nat) : Int32 := sLd m s 6
section CST
variable {d : Nat} {σ : mSg} {m : Nat → Int32} {Q : mPst}
theorem c_waitsOf {s : Nat} (hs : s < 7) (hR : RS σ m) (hq : Q (.inl (some (.int (m (22 + 9 * s))))) sh_7 σ) : mD (d + 1) 303 [.ref 0, .int (nI s)] sh_7 σ Q := by
  have e : nI s * nI 3 + nI 2 = nI (3 * s + 2) := by rw [nI_mul, nI_add, Nat.mul_comm]
  refine ⟨rfl, fun X hX => ?_⟩
  refine hX _ _ _ _ _ _ _ ?_
  refine ⟨vin e (by omega) (by omega), ?_⟩
  refine qi ?_ hq
  rw [← hR.get (rqw s hs), ← clN e (by omega)]; rfl
theorem c_xOf {o : Option Nat} (hs : ∀ s, o = some s → s < 7) (hR : RS σ m) (hq : Q (.inl (some (.int (sX m o)))) sh_7 σ) : mD (d + 1) 301 [.ref 0, .int (oN o)] sh_7 σ Q := by
  refine ⟨rfl, fun X hX => ?_⟩
  refine hX _ _ _ _ _ _ _ ?_
  cases o with
  | none =>
    refine ⟨fun h => absurd rfl h, fun _ => ?_⟩
    refine hX _ _ _ _ _ _ _ ?_
    exact hq
  | some s =>
    have hs := hs s rfl
    have e : nI s * nI 3 = nI (3 * s) := by rw [nI_mul, Nat.mul_comm]
    refine ⟨fun _ => ?_, fun h => absurd h (oN_ne (by omega))⟩
    refine hX _ _ _ _ _ _ _ ?_
    refine ⟨vin e (by omega) (by omega), ?_⟩
    refine hX _ _ _ _ _ _ _ ?_
    refine qi ?_ hq
    show m (20 + 9 * s) = σ 1 (nI s * nI 3).toNatClampNeg
    rw [← hR.get (rqx s hs), clN e (by omega)]
theorem c_yOf {o : Option Nat} (hs : ∀ s, o = some s → s < 7) (hR : RS σ m) (hq : Q (.inl (some (.int (sY m o)))) sh_7 σ) : mD (d + 1) 302 [.ref 0, .int (oN o)] sh_7 σ Q := by
  refine ⟨rfl, fun X hX => ?_⟩
  refine hX _ _ _ _ _ _ _ ?_
  cases o with
  | none =>
    refine ⟨fun h => absurd rfl h, fun _ => ?_⟩
    refine hX _ _ _ _ _ _ _ ?_
    exact hq
  | some s =>
    have hs := hs s rfl
    have e : nI s * nI 3 + nI 1 = nI (3 * s + 1) := by rw [nI_mul, nI_add, Nat.mul_comm]
    refine ⟨fun _ => ?_, fun h => absurd h (oN_ne (by omega))⟩
    refine hX _ _ _ _ _ _ _ ?_
    refine ⟨vin e (by omega) (by omega), ?_⟩
    refine hX _ _ _ _ _ _ _ ?_
    refine qi ?_ hq
    show m (21 + 9 * s) = σ 1 (nI s * nI 3 + nI 1).toNatClampNeg
    rw [← hR.get (rqy s hs), clN e (by omega)]
theorem c_distance {s o : Option Nat} (hs : ∀ k, s = some k → k < 7) (ho : ∀ k, o = some k → k < 7) (hR : RS σ m) (hq : Q (.inl (some (.int (sWay m s o)))) sh_7 σ) : mD (d + 2) 309 [.ref 0, .int (oN s), .int (oN o)] sh_7 σ Q := by
  refine ⟨rfl, fun X hX => ?_⟩
  refine hX _ _ _ _ _ _ _ ?_
  refine c_xOf hs hR ?_
  refine c_xOf ho hR ?_
  refine c_yOf hs hR ?_
  refine c_yOf ho hR ?_
  exact hq
theorem c_setWaits {s : Nat} {v : Int32} (hs : s < 7) (hR : RS σ m) (hq : ∀ σ', RS σ' (upd m (22 + 9 * s) v) → Q (.inl none) sh_7 σ') : mD (d + 1) 304 [.ref 0, .int (nI s), .int v] sh_7 σ Q := by
  have e : nI s * nI 3 + nI 2 = nI (3 * s + 2) := by rw [nI_mul, nI_add, Nat.mul_comm]
  refine ⟨rfl, fun X hX => ?_⟩
  refine hX _ _ _ _ _ _ _ ?_
  refine ⟨vin e (by omega) (by omega), ?_⟩
  refine hq _ ?_
  show RS (mput σ 1 (nI s * nI 3 + nI 2).toNatClampNeg v) _
  rw [clN e (by omega)]
  exact hR.put (rqw s hs) v
theorem c_mixOf {s g : Nat} (hs : s < 7) (h1 : 1 ≤ g) (h2 : g < 7) (hR : RS σ m) (hq : Q (.inl (some (.int (m (22 + 9 * s + g))))) sh_7 σ) : mD (d + 1) 305 [.ref 0, .int (nI s), .int (nI g)] sh_7 σ Q := by
  have e : nI s * nI 6 + nI g - nI 1 = nI (6 * s + g - 1) := by rw [nI_mul, nI_add, Nat.mul_comm, nI_sub (by omega)]
  refine ⟨rfl, fun X hX => ?_⟩
  refine hX _ _ _ _ _ _ _ ?_
  refine ⟨vin e (by omega) (by omega), ?_⟩
  refine qi ?_ hq
  show _ = σ 2 (nI s * nI 6 + nI g - nI 1).toNatClampNeg
  rw [← hR.get (rqm s hs g h2 h1), clN e (by omega)]
theorem c_setMix {s g : Nat} {v : Int32} (hs : s < 7) (h1 : 1 ≤ g) (h2 : g < 7) (hR : RS σ m) (hq : ∀ σ', RS σ' (upd m (22 + 9 * s + g) v) → Q (.inl none) sh_7 σ') : mD (d + 1) 306 [.ref 0, .int (nI s), .int (nI g), .int v] sh_7 σ Q := by
  have e : nI s * nI 6 + nI g - nI 1 = nI (6 * s + g - 1) := by rw [nI_mul, nI_add, Nat.mul_comm, nI_sub (by omega)]
  refine ⟨rfl, fun X hX => ?_⟩
  refine hX _ _ _ _ _ _ _ ?_
  refine ⟨vin e (by omega) (by omega), ?_⟩
  refine hq _ ?_
  show RS (mput σ 2 (nI s * nI 6 + nI g - nI 1).toNatClampNeg v) _
  rw [clN e (by omega)]
  exact hR.put (rqm s hs g h2 h1) v
theorem c_holdOf {s : Nat} (hs : s < 3) (hR : RS σ m) (hq : Q (.inl (some (.int (m (83 + 2 * s))))) sh_7 σ) : mD (d + 1) 312 [.ref 0, .int (nI s)] sh_7 σ Q := by
  have e : nI s * nI 2 = nI (2 * s) := by rw [nI_mul, Nat.mul_comm]
  refine ⟨rfl, fun X hX => ?_⟩
  refine hX _ _ _ _ _ _ _ ?_
  refine ⟨vin e (by omega) (by omega), ?_⟩
  refine qi ?_ hq
  show _ = σ 3 (nI s * nI 2).toNatClampNeg
  rw [← hR.get (rqc s hs).1, clN e (by omega)]
theorem c_goesOf {s : Nat} (hs : s < 3) (hR : RS σ m) (hq : Q (.inl (some (.int (m (84 + 2 * s))))) sh_7 σ) : mD (d + 1) 313 [.ref 0, .int (nI s)] sh_7 σ Q := by
  have e : nI s * nI 2 + nI 1 = nI (2 * s + 1) := by rw [nI_mul, nI_add, Nat.mul_comm]
  refine ⟨rfl, fun X hX => ?_⟩
  refine hX _ _ _ _ _ _ _ ?_
  refine ⟨vin e (by omega) (by omega), ?_⟩
  refine qi ?_ hq
  show _ = σ 3 (nI s * nI 2 + nI 1).toNatClampNeg
  rw [← hR.get (rqc s hs).2, clN e (by omega)]
theorem c_dealOf {k w : Nat} (hk : k < 6) (hw : w < 5) (hR : RS σ m) (hq : Q (.inl (some (.int (m (93 + 5 * k + w))))) sh_7 σ) : mD (d + 1) 318 [.ref 0, .int (nI k), .int (nI w)] sh_7 σ Q := by
  have e : nI k * nI 5 + nI w = nI (5 * k + w) := by rw [nI_mul, nI_add, Nat.mul_comm]
  refine ⟨rfl, fun X hX => ?_⟩
  refine hX _ _ _ _ _ _ _ ?_
  refine ⟨vin e (by omega) (by omega), ?_⟩
  refine qi ?_ hq
  show _ = σ 5 (nI k * nI 5 + nI w).toNatClampNeg
  rw [← hR.get (rqd k hk w hw), clN e (by omega)]
theorem c_lowOf {k : Nat} (hk : k < 6) (hR : RS σ m) (hq : Q (.inl (some (.int (m (93 + 5 * k))))) sh_7 σ) : mD (d + 2) 319 [.ref 0, .int (nI k)] sh_7 σ Q := by
  refine ⟨rfl, fun X hX => ?_⟩
  refine hX _ _ _ _ _ _ _ ?_
  refine c_dealOf (w := 0) hk (by omega) hR ?_
  exact hq
theorem c_highOf {k : Nat} (hk : k < 6) (hR : RS σ m) (hq : Q (.inl (some (.int (m (93 + 5 * k + 1))))) sh_7 σ) : mD (d + 2) 320 [.ref 0, .int (nI k)] sh_7 σ Q := by
  refine ⟨rfl, fun X hX => ?_⟩
  refine hX _ _ _ _ _ _ _ ?_
  refine c_dealOf (w := 1) hk (by omega) hR ?_
  exact hq
theorem c_manyOf {k : Nat} (hk : k < 6) (hR : RS σ m) (hq : Q (.inl (some (.int (m (93 + 5 * k + 2))))) sh_7 σ) : mD (d + 2) 321 [.ref 0, .int (nI k)] sh_7 σ Q := by
  refine ⟨rfl, fun X hX => ?_⟩
  refine hX _ _ _ _ _ _ _ ?_
  refine c_dealOf (w := 2) hk (by omega) hR ?_
  exact hq
theorem c_paysOf {k : Nat} (hk : k < 6) (hR : RS σ m) (hq : Q (.inl (some (.int (m (93 + 5 * k + 3))))) sh_7 σ) : mD (d + 2) 322 [.ref 0, .int (nI k)] sh_7 σ Q := by
  refine ⟨rfl, fun X hX => ?_⟩
  refine hX _ _ _ _ _ _ _ ?_
  refine c_dealOf (w := 3) hk (by omega) hR ?_
  exact hq
theorem c_priceOf {k : Nat} (hk : k < 6) (hR : RS σ m) (hq : Q (.inl (some (.int (m (93 + 5 * k + 2) * m (93 + 5 * k + 3))))) sh_7 σ) : mD (d + 3) 323 [.ref 0, .int (nI k)] sh_7 σ Q := by
  refine ⟨rfl, fun X hX => ?_⟩
  refine hX _ _ _ _ _ _ _ ?_
  refine c_manyOf hk hR ?_
  refine c_paysOf hk hR ?_
  exact hq
end CST
