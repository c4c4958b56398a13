/-! THE CLASS: adding to a state; the log's rows -/
section CS6
variable {d : Nat} {σ : mSg} {m : Nat → Int32} {Q : mPst}
theorem c_addCart {n : Nat} {a b : Int32} (hn : n < 3) (h4 : m 4 = nI n) (hR : RS σ m) (hq : ∀ σ', RS σ' (upd (upd (upd m (83 + 2 * n) a) (84 + 2 * n) b) 4 (nI (n + 1))) → Q (.inl (some (.int (nI n)))) sh_7 σ') : mD (d + 1) 298 [.ref 0, .int a, .int b] sh_7 σ Q := by
  have e : σ 0 8 = nI n := (hR.get rf0.2.1).trans h4
  have e0 : σ 0 8 * nI 2 = nI (2 * n) := by rw [e, nI_mul, Nat.mul_comm]
  have e1 : σ 0 8 * nI 2 + nI 1 = nI (2 * n + 1) := by rw [e, nI_mul, Nat.mul_comm, nI_add]
  refine ⟨rfl, fun X hX => ?_⟩
  refine hX _ _ _ _ _ _ _ ?_
  refine ⟨fun _ => ?_, fun h => ?_⟩
  · refine hX _ _ _ _ _ _ _ ?_
    refine ⟨vin e0 (by omega) (by omega), vin e1 (by omega) (by omega), ?_⟩
    refine qi ?_ (hq _ ?_)
    · show nI n = (mput (mput (mput σ 3 (σ 0 8 * nI 2).toNatClampNeg a) 3 (σ 0 8 * nI 2 + nI 1).toNatClampNeg b) 0 8 (σ 0 8 + nI 1)) 0 8 - nI 1
      rw [mput_eq, upd_at, Int32.add_sub_cancel, e]
    · show RS (mput (mput (mput σ 3 (σ 0 8 * nI 2).toNatClampNeg a) 3 (σ 0 8 * nI 2 + nI 1).toNatClampNeg b) 0 8 (σ 0 8 + nI 1)) _
      rw [clN e1 (by omega), clN e0 (by omega), e, nI_add]
      exact ((hR.put (rqc n hn).1 a).put (rqc n hn).2 b).put rf0.2.1 (nI (n + 1))
  · have h : ¬ σ 0 8 < nI 3 := h
    rw [e] at h
    exact absurd (nI_lt (by omega) (by omega)) h
theorem c_addSieve {n : Nat} {a : Int32} (hn : n < 4) (h4 : m 5 = nI n) (hR : RS σ m) (hq : ∀ σ', RS σ' (upd (upd m (89 + n) a) 5 (nI (n + 1))) → Q (.inl (some (.int (nI n)))) sh_7 σ') : mD (d + 1) 299 [.ref 0, .int a] sh_7 σ Q := by
  have e : σ 0 9 = nI n := (hR.get rf0.2.2.1).trans h4
  have e0 : σ 0 9 = nI (n) := by rw [e]
  refine ⟨rfl, fun X hX => ?_⟩
  refine hX _ _ _ _ _ _ _ ?_
  refine ⟨fun _ => ?_, fun h => ?_⟩
  · refine hX _ _ _ _ _ _ _ ?_
    refine ⟨vin e0 (by omega) (by omega), ?_⟩
    refine qi ?_ (hq _ ?_)
    · show nI n = (mput (mput σ 4 (σ 0 9).toNatClampNeg a) 0 9 (σ 0 9 + nI 1)) 0 9 - nI 1
      rw [mput_eq, upd_at, Int32.add_sub_cancel, e]
    · show RS (mput (mput σ 4 (σ 0 9).toNatClampNeg a) 0 9 (σ 0 9 + nI 1)) _
      rw [clN e0 (by omega), e, nI_add]
      exact (hR.put (rq4 n hn) a).put rf0.2.2.1 (nI (n + 1))
  · have h : ¬ σ 0 9 < nI 4 := h
    rw [e] at h
    exact absurd (nI_lt (by omega) (by omega)) h
theorem c_addStreet {n : Nat} {a b c : Int32} (hn : n < 7) (h4 : m 3 = nI n) (hR : RS σ m) (hq : ∀ σ', RS σ' (upd (upd (upd (upd m (20 + 9 * n) a) (21 + 9 * n) b) (22 + 9 * n) c) 3 (nI (n + 1))) → Q (.inl (some (.int (nI n)))) sh_7 σ') : mD (d + 1) 297 [.ref 0, .int a, .int b, .int c] sh_7 σ Q := by
  have e : σ 0 7 = nI n := (hR.get rf0.1).trans h4
  have e0 : σ 0 7 * nI 3 = nI (3 * n) := by rw [e, nI_mul, Nat.mul_comm]
  have e1 : σ 0 7 * nI 3 + nI 1 = nI (3 * n + 1) := by rw [e, nI_mul, Nat.mul_comm, nI_add]
  have e2 : σ 0 7 * nI 3 + nI 2 = nI (3 * n + 2) := by rw [e, nI_mul, Nat.mul_comm, nI_add]
  refine ⟨rfl, fun X hX => ?_⟩
  refine hX _ _ _ _ _ _ _ ?_
  refine ⟨fun _ => ?_, fun h => ?_⟩
  · refine hX _ _ _ _ _ _ _ ?_
    refine ⟨vin e0 (by omega) (by omega), vin e1 (by omega) (by omega), vin e2 (by omega) (by omega), ?_⟩
    refine qi ?_ (hq _ ?_)
    · show nI n = (mput (mput (mput (mput σ 1 (σ 0 7 * nI 3).toNatClampNeg a) 1 (σ 0 7 * nI 3 + nI 1).toNatClampNeg b) 1 (σ 0 7 * nI 3 + nI 2).toNatClampNeg c) 0 7 (σ 0 7 + nI 1)) 0 7 - nI 1
      rw [mput_eq, upd_at, Int32.add_sub_cancel, e]
    · show RS (mput (mput (mput (mput σ 1 (σ 0 7 * nI 3).toNatClampNeg a) 1 (σ 0 7 * nI 3 + nI 1).toNatClampNeg b) 1 (σ 0 7 * nI 3 + nI 2).toNatClampNeg c) 0 7 (σ 0 7 + nI 1)) _
      rw [clN e2 (by omega), clN e1 (by omega), clN e0 (by omega), e, nI_add]
      exact (((hR.put (rqx n hn) a).put (rqy n hn) b).put (rqw n hn) c).put rf0.1 (nI (n + 1))
  · have h : ¬ σ 0 7 < nI 7 := h
    rw [e] at h
    exact absurd (nI_lt (by omega) (by omega)) h
theorem c_addContract {n : Nat} {a b c e9 : Int32} (hn : n < 6) (h4 : m 6 = nI n) (hR : RS σ m) (hq : ∀ σ', RS σ' (upd (upd (upd (upd (upd (upd m (93 + 5 * n + 0) a) (93 + 5 * n + 1) b) (93 + 5 * n + 2) c) (93 + 5 * n + 3) e9) (93 + 5 * n + 4) (nI 1)) 6 (nI (n + 1))) → Q (.inl (some (.int (nI n)))) sh_7 σ') : mD (d + 1) 300 [.ref 0, .int a, .int b, .int c, .int e9] sh_7 σ Q := by
  have e : σ 0 10 = nI n := (hR.get rf0.2.2.2.1).trans h4
  have e0 : σ 0 10 * nI 5 = nI (5 * n) := by rw [e, nI_mul, Nat.mul_comm]
  have e1 : σ 0 10 * nI 5 + nI 1 = nI (5 * n + 1) := by rw [e, nI_mul, Nat.mul_comm, nI_add]
  have e2 : σ 0 10 * nI 5 + nI 2 = nI (5 * n + 2) := by rw [e, nI_mul, Nat.mul_comm, nI_add]
  have e3 : σ 0 10 * nI 5 + nI 3 = nI (5 * n + 3) := by rw [e, nI_mul, Nat.mul_comm, nI_add]
  have e4 : σ 0 10 * nI 5 + nI 4 = nI (5 * n + 4) := by rw [e, nI_mul, Nat.mul_comm, nI_add]
  refine ⟨rfl, fun X hX => ?_⟩
  refine hX _ _ _ _ _ _ _ ?_
  refine ⟨fun _ => ?_, fun h => ?_⟩
  · refine hX _ _ _ _ _ _ _ ?_
    refine ⟨vin e0 (by omega) (by omega), vin e1 (by omega) (by omega), vin e2 (by omega) (by omega), vin e3 (by omega) (by omega), vin e4 (by omega) (by omega), ?_⟩
    refine qi ?_ (hq _ ?_)
    · show nI n = (mput (mput (mput (mput (mput (mput σ 5 (σ 0 10 * nI 5).toNatClampNeg a) 5 (σ 0 10 * nI 5 + nI 1).toNatClampNeg b) 5 (σ 0 10 * nI 5 + nI 2).toNatClampNeg c) 5 (σ 0 10 * nI 5 + nI 3).toNatClampNeg e9) 5 (σ 0 10 * nI 5 + nI 4).toNatClampNeg (nI 1)) 0 10 (σ 0 10 + nI 1)) 0 10 - nI 1
      rw [mput_eq, upd_at, Int32.add_sub_cancel, e]
    · show RS (mput (mput (mput (mput (mput (mput σ 5 (σ 0 10 * nI 5).toNatClampNeg a) 5 (σ 0 10 * nI 5 + nI 1).toNatClampNeg b) 5 (σ 0 10 * nI 5 + nI 2).toNatClampNeg c) 5 (σ 0 10 * nI 5 + nI 3).toNatClampNeg e9) 5 (σ 0 10 * nI 5 + nI 4).toNatClampNeg (nI 1)) 0 10 (σ 0 10 + nI 1)) _
      rw [clN e4 (by omega), clN e3 (by omega), clN e2 (by omega), clN e1 (by omega), clN e0 (by omega), e, nI_add]
      exact (((((hR.put (rqd n hn 0 (by omega)) a).put (rqd n hn 1 (by omega)) b).put (rqd n hn 2 (by omega)) c).put (rqd n hn 3 (by omega)) e9).put (rqd n hn 4 (by omega)) (nI 1)).put rf0.2.2.2.1 (nI (n + 1))
  · have h : ¬ σ 0 10 < nI 6 := h
    rw [e] at h
    exact absurd (nI_lt (by omega) (by omega)) h
end CS6
