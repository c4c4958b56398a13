/-! BOTH SIDES: counts, the seed -/
/-- what a count says -/
def sCnt (m : Nat → Int32) (a : Int32) : Nat → Int32
  | 0 => m 3
  | 1 => m 4
  | 2 => m 5
  | 3 => m 6
  | 4 => m 0
  | 5 => m 1
  | 6 => m 7
  | 7 => m 8
  | 8 => m 9
  | 9 => m 10
  | 10 => m 11
  | 11 => m 12
  | _ => a
theorem sCnt3 {m : Nat → Int32} {a : Int32} {k : Nat} (h : k < 4) : sCnt m a k = m (3 + k) := by
  have : k = 0 ∨ k = 1 ∨ k = 2 ∨ k = 3 := by omega
  rcases this with rfl | rfl | rfl | rfl <;> rfl
theorem sCnt7 {m : Nat → Int32} {a : Int32} {k : Nat} (h1 : 6 ≤ k) (h : k < 11) : sCnt m a k = m (1 + k) := by
  have : k = 6 ∨ k = 7 ∨ k = 8 ∨ k = 9 ∨ k = 10 := by omega
  rcases this with rfl | rfl | rfl | rfl | rfl <;> rfl
theorem msw_all {x : Int32} {J : Nat → Nat → Prop} : ∀ (ps : List (Nat × Nat)) (lo : Nat), (∀ k t m, ps[k]? = some (t, m) → x.toInt = ((lo + k : Nat) : Int) → J t m) → msw x J lo ps
  | [], _, _ => trivial
  | (t, m) :: ps, lo, h => ⟨fun e => h 0 t m rfl e, msw_all ps (lo + 1) (fun k t m a b => h (k + 1) t m a (by rw [b]; congr 1; omega))⟩
section CNT
variable {d : Nat} {σ : mSg} {Q : mPst} {ls : List lLn} {n nc ns nd : Nat}
theorem g_count {p : Int32} (q1 : ∀ k, k < 13 → p = nI k → ∀ σ', MX σ (σ 1) (nI 0) σ' → Q (.inl (some (.int (sCnt (σ 1) (σ 0 6) k)))) sh_10 σ') (q0 : (¬ ∃ k, k < 13 ∧ p = nI k) → ∀ σ', MX σ (σ 1) (nI 0) σ' → Q (.inl (some (.int (-(nI 1))))) sh_10 σ') : mD (d + 2) 225 [.ref 0, .int p] sh_10 σ Q := by
  refine ⟨rfl, fun X hX => ?_⟩
  refine hX _ _ _ _ _ _ _ ?_
  refine g_isIn (fun h => ?_) (fun h1 => ?_)
  · have h : sIn p (nI 0) (nI 3) := h
    rw [sIn0_iff (by omega)] at h
    obtain ⟨k, hk, rfl⟩ := h
    have hq := q1 k (by omega) rfl
    have e : nI 3 + nI k = nI (3 + k) := nI_add 3 k
    refine ⟨fun z => absurd z (by decide +kernel), fun _ => ?_⟩
    refine ⟨vin e (by omega) (by omega), ?_⟩
    rw [sCnt3 hk, ← clN e (by omega)] at hq
    exact hq _ MX.th
  · have h1 : ¬ sIn p (nI 0) (nI 3) := h1
    rw [sIn0_iff (by omega)] at h1
    refine ⟨fun _ => ?_, fun z => absurd rfl z⟩
    refine hX _ _ _ _ _ _ _ ?_
    refine ⟨fun h2 => ?_, fun h2 => ?_⟩
    · refine hX _ _ _ _ _ _ _ ?_
      refine ⟨fun h3 => ?_, fun h3 => ?_⟩
      · refine hX _ _ _ _ _ _ _ ?_
        refine g_isIn (fun h => ?_) (fun h4 => ?_)
        · have h : sIn p (nI 6) (nI 10) := h
          rw [sIn2_iff (by omega) (by omega)] at h
          obtain ⟨k, k1, k2, rfl⟩ := h
          have hq := q1 k (by omega) rfl
          have e : nI 7 + nI k - nI 6 = nI (1 + k) := by rw [nI_add, nI_sub (by omega)]; congr 1; omega
          refine ⟨fun z => absurd z (by decide +kernel), fun _ => ?_⟩
          refine ⟨vin e (by omega) (by omega), ?_⟩
          rw [sCnt7 k1 (by omega), ← clN e (by omega)] at hq
          exact hq _ MX.th
        · have h4 : ¬ sIn p (nI 6) (nI 10) := h4
          rw [sIn2_iff (by omega) (by omega)] at h4
          refine ⟨fun _ => ?_, fun z => absurd rfl z⟩
          refine hX _ _ _ _ _ _ _ ?_
          refine ⟨fun h5 => ?_, fun h5 => ?_⟩
          · refine hX _ _ _ _ _ _ _ ?_
            refine ⟨fun h6 => ?_, fun h6 => ?_⟩
            · refine hX _ _ _ _ _ _ _ ?_
              refine hX _ _ _ _ _ _ _ ?_
              refine q0 ?_ _ MX.th
              rintro ⟨k, hk, e⟩
              have a2 : k ≠ 4 := fun z => h2 (by rw [e, z]; rfl)
              have a3 : k ≠ 5 := fun z => h3 (by rw [e, z]; rfl)
              have a5 : k ≠ 11 := fun z => h5 (by rw [e, z]; rfl)
              have a6 : k ≠ 12 := fun z => h6 (by rw [e, z]; rfl)
              by_cases a1 : k < 4
              · exact h1 ⟨k, a1, e⟩
              · exact h4 ⟨k, by omega, by omega, e⟩
            · refine hX _ _ _ _ _ _ _ ?_
              exact q1 12 (by omega) h6 _ MX.th
          · refine ⟨vp_in_nI (n := 12) (by omega) (by omega), ?_⟩
            exact q1 11 (by omega) h5 _ MX.th
      · refine ⟨vp_in_nI (n := 1) (by omega) (by omega), ?_⟩
        exact q1 5 (by omega) h3 _ MX.th
    · refine ⟨vp_in_nI (n := 0) (by omega) (by omega), ?_⟩
      exact q1 4 (by omega) h2 _ MX.th
end CNT
section CNC
variable {d : Nat} {σ : mSg} {m : Nat → Int32} {v : Int32} {Q : mPst} {ls : List lLn} {n nc ns nd : Nat}
set_option maxRecDepth 100000 in
theorem c_yseed {v : Int32} (hR : RYs σ m) (hq : ∀ σ', RYs σ' (upd m 13 v) → (∀ c, c ≠ 5 → σ' c = σ c) → Q (.inl (some (.int (m 13)))) sh_9 σ') : mD (d + 1) 52 [.ref 0, .int v] sh_9 σ Q := by
  have e : σ 5 17 = m 13 := hR.g rf0.2.2.2.2.2.2.2.2.2.2.1
  refine ⟨rfl, fun X hX => ?_⟩
  refine hX _ _ _ _ _ _ _ ?_
  refine qi e.symm ?_
  refine hq (mput σ 5 17 v) ?_ (fun c hc => mput_ne hc)
  refine RS.congr (RS.put (σ := fun j => σ (mgl [(5, 9)] j)) hR rf0.2.2.2.2.2.2.2.2.2.2.1 v) (fun c hc => ?_)
  by_cases h0 : c = 0
  · subst h0; rfl
  · rw [mput_ne h0]
    refine mput_ne ?_
    rw [mgl9 hc]
    omega
set_option maxRecDepth 100000 in
theorem c_ycount {p : Int32} (hB : BD m n nc ns nd) (hR : RYs σ m) (hv : σ 32 0 = m 1) (q1 : ∀ k, k < 13 → p = nI k → Q (.inl (some (.int (sCnt m (σ 53 1) k)))) sh_9 σ) (q0 : (¬ ∃ k, k < 13 ∧ p = nI k) → Q (.inl (some (.int (-(nI 1))))) sh_9 σ) : mD (d + 1) 56 [.ref 0, .int p] sh_9 σ Q := by
  refine ⟨rfl, fun X hX => ?_⟩
  refine hX _ _ _ _ _ _ _ ?_
  by_cases hp : ∃ k, k < 13 ∧ p = nI k
  · obtain ⟨k, hk, rfl⟩ := hp
    have hq := q1 k hk rfl
    have hc : k = 0 ∨ k = 1 ∨ k = 2 ∨ k = 3 ∨ k = 4 ∨ k = 5 ∨ k = 6 ∨ k = 7 ∨ k = 8 ∨ k = 9 ∨ k = 10 ∨ k = 11 ∨ k = 12 := by omega
    rcases hc with rfl | rfl | rfl | rfl | rfl | rfl | rfl | rfl | rfl | rfl | rfl | rfl | rfl
    · refine ⟨fun h => absurd h (by decide +kernel), fun _ => ?_, fun h => absurd h (by decide +kernel), fun h => absurd h (by decide +kernel), fun h => absurd h (by decide +kernel), fun h => absurd h (by decide +kernel), fun h => absurd h (by decide +kernel), fun h => absurd h (by decide +kernel), fun h => absurd h (by decide +kernel), fun h => absurd h (by decide +kernel), fun h => absurd h (by decide +kernel), fun h => absurd h (by decide +kernel), fun h => absurd h (by decide +kernel), fun h => absurd h (by decide +kernel), trivial⟩
      refine hX _ _ _ _ _ _ _ ?_
      exact qi (hR.g rf0.1).symm hq
    · refine ⟨fun h => absurd h (by decide +kernel), fun h => absurd h (by decide +kernel), fun _ => ?_, fun h => absurd h (by decide +kernel), fun h => absurd h (by decide +kernel), fun h => absurd h (by decide +kernel), fun h => absurd h (by decide +kernel), fun h => absurd h (by decide +kernel), fun h => absurd h (by decide +kernel), fun h => absurd h (by decide +kernel), fun h => absurd h (by decide +kernel), fun h => absurd h (by decide +kernel), fun h => absurd h (by decide +kernel), fun h => absurd h (by decide +kernel), trivial⟩
      refine hX _ _ _ _ _ _ _ ?_
      exact qi (hR.g rf0.2.1).symm hq
    · refine ⟨fun h => absurd h (by decide +kernel), fun h => absurd h (by decide +kernel), fun h => absurd h (by decide +kernel), fun _ => ?_, fun h => absurd h (by decide +kernel), fun h => absurd h (by decide +kernel), fun h => absurd h (by decide +kernel), fun h => absurd h (by decide +kernel), fun h => absurd h (by decide +kernel), fun h => absurd h (by decide +kernel), fun h => absurd h (by decide +kernel), fun h => absurd h (by decide +kernel), fun h => absurd h (by decide +kernel), fun h => absurd h (by decide +kernel), trivial⟩
      refine hX _ _ _ _ _ _ _ ?_
      exact qi (hR.g rf0.2.2.1).symm hq
    · refine ⟨fun h => absurd h (by decide +kernel), fun h => absurd h (by decide +kernel), fun h => absurd h (by decide +kernel), fun h => absurd h (by decide +kernel), fun _ => ?_, fun h => absurd h (by decide +kernel), fun h => absurd h (by decide +kernel), fun h => absurd h (by decide +kernel), fun h => absurd h (by decide +kernel), fun h => absurd h (by decide +kernel), fun h => absurd h (by decide +kernel), fun h => absurd h (by decide +kernel), fun h => absurd h (by decide +kernel), fun h => absurd h (by decide +kernel), trivial⟩
      refine hX _ _ _ _ _ _ _ ?_
      exact qi (hR.g rf0.2.2.2.1).symm hq
    · refine ⟨fun h => absurd h (by decide +kernel), fun h => absurd h (by decide +kernel), fun h => absurd h (by decide +kernel), fun h => absurd h (by decide +kernel), fun h => absurd h (by decide +kernel), fun _ => ?_, fun h => absurd h (by decide +kernel), fun h => absurd h (by decide +kernel), fun h => absurd h (by decide +kernel), fun h => absurd h (by decide +kernel), fun h => absurd h (by decide +kernel), fun h => absurd h (by decide +kernel), fun h => absurd h (by decide +kernel), fun h => absurd h (by decide +kernel), trivial⟩
      refine hX _ _ _ _ _ _ _ ?_
      exact qi (hR.g rf0.2.2.2.2.1).symm hq
    · refine ⟨fun h => absurd h (by decide +kernel), fun h => absurd h (by decide +kernel), fun h => absurd h (by decide +kernel), fun h => absurd h (by decide +kernel), fun h => absurd h (by decide +kernel), fun h => absurd h (by decide +kernel), fun _ => ?_, fun h => absurd h (by decide +kernel), fun h => absurd h (by decide +kernel), fun h => absurd h (by decide +kernel), fun h => absurd h (by decide +kernel), fun h => absurd h (by decide +kernel), fun h => absurd h (by decide +kernel), fun h => absurd h (by decide +kernel), trivial⟩
      refine hX _ _ _ _ _ _ _ ?_
      exact qi hv.symm hq
    · refine ⟨fun h => absurd h (by decide +kernel), fun h => absurd h (by decide +kernel), fun h => absurd h (by decide +kernel), fun h => absurd h (by decide +kernel), fun h => absurd h (by decide +kernel), fun h => absurd h (by decide +kernel), fun h => absurd h (by decide +kernel), fun _ => ?_, fun h => absurd h (by decide +kernel), fun h => absurd h (by decide +kernel), fun h => absurd h (by decide +kernel), fun h => absurd h (by decide +kernel), fun h => absurd h (by decide +kernel), fun h => absurd h (by decide +kernel), trivial⟩
      refine hX _ _ _ _ _ _ _ ?_
      exact qi (hR.g rf0.2.2.2.2.2.1).symm hq
    · refine ⟨fun h => absurd h (by decide +kernel), fun h => absurd h (by decide +kernel), fun h => absurd h (by decide +kernel), fun h => absurd h (by decide +kernel), fun h => absurd h (by decide +kernel), fun h => absurd h (by decide +kernel), fun h => absurd h (by decide +kernel), fun h => absurd h (by decide +kernel), fun _ => ?_, fun h => absurd h (by decide +kernel), fun h => absurd h (by decide +kernel), fun h => absurd h (by decide +kernel), fun h => absurd h (by decide +kernel), fun h => absurd h (by decide +kernel), trivial⟩
      refine hX _ _ _ _ _ _ _ ?_
      exact qi (hR.g rf0.2.2.2.2.2.2.1).symm hq
    · refine ⟨fun h => absurd h (by decide +kernel), fun h => absurd h (by decide +kernel), fun h => absurd h (by decide +kernel), fun h => absurd h (by decide +kernel), fun h => absurd h (by decide +kernel), fun h => absurd h (by decide +kernel), fun h => absurd h (by decide +kernel), fun h => absurd h (by decide +kernel), fun h => absurd h (by decide +kernel), fun _ => ?_, fun h => absurd h (by decide +kernel), fun h => absurd h (by decide +kernel), fun h => absurd h (by decide +kernel), fun h => absurd h (by decide +kernel), trivial⟩
      refine hX _ _ _ _ _ _ _ ?_
      exact qi (hR.g rf0.2.2.2.2.2.2.2.1).symm hq
    · refine ⟨fun h => absurd h (by decide +kernel), fun h => absurd h (by decide +kernel), fun h => absurd h (by decide +kernel), fun h => absurd h (by decide +kernel), fun h => absurd h (by decide +kernel), fun h => absurd h (by decide +kernel), fun h => absurd h (by decide +kernel), fun h => absurd h (by decide +kernel), fun h => absurd h (by decide +kernel), fun h => absurd h (by decide +kernel), fun _ => ?_, fun h => absurd h (by decide +kernel), fun h => absurd h (by decide +kernel), fun h => absurd h (by decide +kernel), trivial⟩
      refine hX _ _ _ _ _ _ _ ?_
      exact qi (hR.g rf0.2.2.2.2.2.2.2.2.1).symm hq
    · refine ⟨fun h => absurd h (by decide +kernel), fun h => absurd h (by decide +kernel), fun h => absurd h (by decide +kernel), fun h => absurd h (by decide +kernel), fun h => absurd h (by decide +kernel), fun h => absurd h (by decide +kernel), fun h => absurd h (by decide +kernel), fun h => absurd h (by decide +kernel), fun h => absurd h (by decide +kernel), fun h => absurd h (by decide +kernel), fun h => absurd h (by decide +kernel), fun _ => ?_, fun h => absurd h (by decide +kernel), fun h => absurd h (by decide +kernel), trivial⟩
      refine hX _ _ _ _ _ _ _ ?_
      have e : σ 5 16 = m 11 := hR.g rf0.2.2.2.2.2.2.2.2.2.1
      rcases hB.2.2.2.2.2.2.2.2.2.2.1 with h | h
      · refine ⟨fun _ => ?_, fun z => absurd (e.trans h) z⟩
        refine hX _ _ _ _ _ _ _ ?_
        refine hX _ _ _ _ _ _ _ ?_
        exact qi h hq
      · refine ⟨fun z => absurd (z.symm.trans (e.trans h)) (by decide +kernel), fun _ => ?_⟩
        refine hX _ _ _ _ _ _ _ ?_
        exact qi h hq
    · refine ⟨fun h => absurd h (by decide +kernel), fun h => absurd h (by decide +kernel), fun h => absurd h (by decide +kernel), fun h => absurd h (by decide +kernel), fun h => absurd h (by decide +kernel), fun h => absurd h (by decide +kernel), fun h => absurd h (by decide +kernel), fun h => absurd h (by decide +kernel), fun h => absurd h (by decide +kernel), fun h => absurd h (by decide +kernel), fun h => absurd h (by decide +kernel), fun h => absurd h (by decide +kernel), fun _ => ?_, fun h => absurd h (by decide +kernel), trivial⟩
      refine hX _ _ _ _ _ _ _ ?_
      exact qi (RS.get (σ := fun j => σ (mgl [(5, 9)] j)) hR rf0.2.2.2.2.2.2.2.2.2.2.2).symm hq
    · refine ⟨fun h => absurd h (by decide +kernel), fun h => absurd h (by decide +kernel), fun h => absurd h (by decide +kernel), fun h => absurd h (by decide +kernel), fun h => absurd h (by decide +kernel), fun h => absurd h (by decide +kernel), fun h => absurd h (by decide +kernel), fun h => absurd h (by decide +kernel), fun h => absurd h (by decide +kernel), fun h => absurd h (by decide +kernel), fun h => absurd h (by decide +kernel), fun h => absurd h (by decide +kernel), fun h => absurd h (by decide +kernel), fun _ => ?_, trivial⟩
      refine hX _ _ _ _ _ _ _ ?_
      exact hq
  · have no : ∀ (t u k : Nat), ∀ J : Prop, k < 13 → p.toInt = ((0 + k : Nat) : Int) → J := by
      intro _ _ k J hk e
      exact absurd ⟨k, hk, ti_eq (by omega) (by rw [e, Nat.zero_add])⟩ hp
    refine ⟨fun _ => ?_, msw_all _ 0 (fun k t m hg e => no t m k _ ?_ e)⟩
    · refine hX _ _ _ _ _ _ _ ?_
      exact q0 hp
    · have := (List.getElem?_eq_some_iff.mp hg).1
      exact this
end CNC
