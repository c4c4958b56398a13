/-! THE CLASS: State, by the model's row -/
section CST
variable {d : Nat} {σ : mSg} {m : Nat → Int32} {Q : mPst}
theorem c_waitsOf {s : Nat} (hs : s < 7) (hR : RS σ m) (hq : Q (.inl (some (.int (m (22 + 9 * s))))) sh_7 σ) : mD (d + 1) 303 [.ref 0, .int (nI s)] sh_7 σ Q := by
  have e : nI s * nI 3 + nI 2 = nI (3 * s + 2) := by rw [nI_mul, nI_add, Nat.mul_comm]
  refine ⟨rfl, fun X hX => ?_⟩
  refine hX _ _ _ _ _ _ _ ?_
  refine ⟨vin e (by omega) (by omega), ?_⟩
  rw [← show _ = m (22 + 9 * s) from hR.get (rp1 s hs 2 (by omega)), ← clN e (by omega)] at hq
  exact hq
theorem c_xOf {o : Option Nat} (hs : ∀ s, o = some s → s < 7) (hR : RS σ m) (hq : Q (.inl (some (.int (match o with | none => nI 0 | some s => m (20 + 9 * s))))) sh_7 σ) : mD (d + 1) 301 [.ref 0, .int (oN o)] sh_7 σ Q := by
  refine ⟨rfl, fun X hX => ?_⟩
  refine hX _ _ _ _ _ _ _ ?_
  cases o with
  | none =>
    refine ⟨fun h => absurd rfl h, fun _ => ?_⟩
    refine hX _ _ _ _ _ _ _ ?_
    exact hq
  | some s =>
    have hs := hs s rfl
    have e : nI s * nI 3 = nI (3 * s + 0) := by rw [nI_mul, Nat.mul_comm]; rfl
    refine ⟨fun _ => ?_, fun h => absurd h (oN_ne (by omega))⟩
    refine hX _ _ _ _ _ _ _ ?_
    refine ⟨vin e (by omega) (by omega), ?_⟩
    refine hX _ _ _ _ _ _ _ ?_
    have h9 : σ 1 (nI s * nI 3).toNatClampNeg = m (20 + 9 * s) := by rw [clN e (by omega)]; exact hR.get (rp1 s hs 0 (by omega))
    rw [show (match some s with | none => nI 0 | some s => m (20 + 9 * s)) = m (20 + 9 * s) from rfl, ← h9] at hq
    exact hq
end CST
