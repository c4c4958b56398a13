/-! THE CLASS: what the yard is asked -/
theorem same1 {b k : Nat} {σ : mSg} : mback [(b, k)] σ (fun j => σ (mgl [(b, k)] j)) = σ := by
  funext c
  by_cases h : b ≤ c ∧ c < b + k
  · rw [mback_in h]
    show σ (mgl [(b, k)] (c - b)) = σ c
    unfold mgl
    rw [show Nat.blt (c - b) k = true from Nat.ble_eq_true_of_le (by omega)]
    show σ (b + (c - b)) = σ c
    rw [Nat.add_sub_cancel' h.1]
  · rw [mback_out (by omega)]
theorem qn {σ W : mSg} (h : W = σ) : mback [(5, 9)] W (fun j => W (mgl [(5, 9)] j)) = σ := by rw [same1, h]
theorem qs {σ W : mSg} {m : Nat → Int32} (h : W = σ) (hR : RYs σ m) : RS (fun j => W (mgl [(5, 9)] j)) m := by rw [h]; exact hR
theorem qw {Q : mPst} {o : mOut} {sh : List mSh} {σ W : mSg} (h : W = σ) (hq : Q o sh σ) : Q o sh W := by rw [h]; exact hq
/-- the yard as it is now, and its law -/
def YS (σ : mSg) (m : Nat → Int32) (v : Int32) (ls : List lLn) : Prop := RYs σ m ∧ Lw (fun j => σ (mgl [(32, 7)] j)) v ls
def keepc (c : Nat) : Prop := c < 5 ∨ (23 ≤ c ∧ c < 32) ∨ (46 ≤ c ∧ c < 168)
def FX (σ σ' : mSg) : Prop := ∀ c, keepc c → σ' c = σ c
theorem FX.refl {σ : mSg} : FX σ σ := fun _ _ => rfl
theorem FX.trans {a b c : mSg} (h : FX a b) (h2 : FX b c) : FX a c := fun i hi => (h2 i hi).trans (h i hi)
theorem rng_no {p : Int32} {n : Nat} (hn : n < 2 ^ 31) (h : p < 0 ∨ nI n ≤ p) : ¬ ∃ s, s < n ∧ p = nI s := by
  rintro ⟨s, hs, rfl⟩
  rcases h with h | h
  · exact nI_pos (by omega) h
  · rw [nI_leI hn (by omega)] at h; omega
theorem ti_eq {x : Int32} {k : Nat} (hk : k < 2 ^ 31) (h : x.toInt = (k : Int)) : x = nI k := Int32.toInt_inj.mp (h.trans (nI_toInt hk).symm)
theorem ti_no {x : Int32} {n : Nat} {a b : Int} (hn : n < 2 ^ 31) (ha : a = 0) (hb : b = (n : Int) - 1) (h : x.toInt < a ∨ b < x.toInt) : ¬ ∃ s, s < n ∧ x = nI s := by
  rintro ⟨s, hs, rfl⟩
  rw [nI_toInt (by omega)] at h
  omega
def sWA (m : Nat → Int32) : Nat → Int32
  | 0 => nI 0
  | k + 1 => sWA m k + m (22 + 9 * k)
def sPt (m : Nat → Int32) (n s : Nat) : Int32 := if sWA m n = nI 0 then nI 0 else m (22 + 9 * s) * nI 100 / sWA m n
def sStr (ls : List lLn) (m : Nat → Int32) (n s : Nat) : Nat → Int32
  | 0 => m (20 + 9 * s)
  | 1 => m (21 + 9 * s)
  | 2 => m (22 + 9 * s)
  | 3 => sLoad m s
  | 4 => sFi ls m s
  | 5 => sTo ls m s
  | 6 => sWay m (some s) none
  | _ => sPt m n s
section CYQ
variable {d : Nat} {σ : mSg} {m : Nat → Int32} {v : Int32} {ls : List lLn} {Q : mPst} {n nc ns nd : Nat} {sh : List mSh}
theorem RYs.g (h : RYs σ m) {k i : Nat} (hr : rp 0 k = some i) : σ 5 k = m i := RS.get (σ := fun j => σ (mgl [(5, 9)] j)) h hr
set_option maxRecDepth 100000 in
theorem c_needStreet {p : Int32} (hB : BD m n nc ns nd) (hR : RYs σ m) (q1 : ∀ s, s < n → p = nI s → Q (.inl none) sh_9 σ) (q0 : (¬ ∃ s, s < n ∧ p = nI s) → Q (.inr 2) sh_9 σ) : mD (d + 1) 57 [.ref 0, .int p] sh_9 σ Q := by
  have hn := hB.1.2
  have e : σ 5 7 = nI n := (hR.g rf0.1).trans hB.1.1
  refine ⟨rfl, fun X hX => ?_⟩
  have bad : (¬ ∃ s, s < n ∧ p = nI s) → X 15 [none, none] [] sh_9 σ 0 0 := by
    intro h
    refine hX _ _ _ _ _ _ _ ?_
    exact q0 h
  refine hX _ _ _ _ _ _ _ ?_
  rcases pk_ix p (n := n) (by omega) with h | h | ⟨s, hs, rfl⟩
  · exact ⟨fun _ => bad (rng_no (by omega) (Or.inl h)), fun z => absurd h z⟩
  · exact ⟨fun _ => bad (rng_no (by omega) (Or.inr h)), fun _ => ⟨fun z => absurd (show p < σ 5 7 from z) (by rw [e]; exact Int32.not_lt.mpr h), fun _ => bad (rng_no (by omega) (Or.inr h))⟩⟩
  · refine ⟨fun z => absurd z (nI_pos (by omega)), fun _ => ⟨fun _ => ?_, fun z => absurd (show nI s < σ 5 7 from by rw [e]; exact nI_lt hs (by omega)) z⟩⟩
    refine hX _ _ _ _ _ _ _ ?_
    exact q1 s hs rfl
set_option maxRecDepth 100000 in
theorem c_needCart {p : Int32} (hB : BD m n nc ns nd) (hR : RYs σ m) (q1 : ∀ s, s < nc → p = nI s → Q (.inl none) sh_9 σ) (q0 : (¬ ∃ s, s < nc ∧ p = nI s) → Q (.inr 2) sh_9 σ) : mD (d + 1) 58 [.ref 0, .int p] sh_9 σ Q := by
  have hn := hB.2.1.2
  have e : σ 5 8 = nI nc := (hR.g rf0.2.1).trans hB.2.1.1
  refine ⟨rfl, fun X hX => ?_⟩
  have bad : (¬ ∃ s, s < nc ∧ p = nI s) → X 15 [none, none] [] sh_9 σ 0 0 := by
    intro h
    refine hX _ _ _ _ _ _ _ ?_
    exact q0 h
  refine hX _ _ _ _ _ _ _ ?_
  rcases pk_ix p (n := nc) (by omega) with h | h | ⟨s, hs, rfl⟩
  · exact ⟨fun _ => bad (rng_no (by omega) (Or.inl h)), fun z => absurd h z⟩
  · exact ⟨fun _ => bad (rng_no (by omega) (Or.inr h)), fun _ => ⟨fun z => absurd (show p < σ 5 8 from z) (by rw [e]; exact Int32.not_lt.mpr h), fun _ => bad (rng_no (by omega) (Or.inr h))⟩⟩
  · refine ⟨fun z => absurd z (nI_pos (by omega)), fun _ => ⟨fun _ => ?_, fun z => absurd (show nI s < σ 5 8 from by rw [e]; exact nI_lt hs (by omega)) z⟩⟩
    refine hX _ _ _ _ _ _ _ ?_
    exact q1 s hs rfl
set_option maxRecDepth 100000 in
theorem c_needContract {p : Int32} (hB : BD m n nc ns nd) (hR : RYs σ m) (q1 : ∀ s, s < nd → p = nI s → Q (.inl none) sh_9 σ) (q0 : (¬ ∃ s, s < nd ∧ p = nI s) → Q (.inr 2) sh_9 σ) : mD (d + 1) 59 [.ref 0, .int p] sh_9 σ Q := by
  have hn := hB.2.2.2.1.2
  have e : σ 5 10 = nI nd := (hR.g rf0.2.2.2.1).trans hB.2.2.2.1.1
  refine ⟨rfl, fun X hX => ?_⟩
  have bad : (¬ ∃ s, s < nd ∧ p = nI s) → X 15 [none, none] [] sh_9 σ 0 0 := by
    intro h
    refine hX _ _ _ _ _ _ _ ?_
    exact q0 h
  refine hX _ _ _ _ _ _ _ ?_
  rcases pk_ix p (n := nd) (by omega) with h | h | ⟨s, hs, rfl⟩
  · exact ⟨fun _ => bad (rng_no (by omega) (Or.inl h)), fun z => absurd h z⟩
  · exact ⟨fun _ => bad (rng_no (by omega) (Or.inr h)), fun _ => ⟨fun z => absurd (show p < σ 5 10 from z) (by rw [e]; exact Int32.not_lt.mpr h), fun _ => bad (rng_no (by omega) (Or.inr h))⟩⟩
  · refine ⟨fun z => absurd z (nI_pos (by omega)), fun _ => ⟨fun _ => ?_, fun z => absurd (show nI s < σ 5 10 from by rw [e]; exact nI_lt hs (by omega)) z⟩⟩
    refine hX _ _ _ _ _ _ _ ?_
    exact q1 s hs rfl
/-- a number from one to another one -/
theorem rng2 {p : Int32} {a b : Nat} (hb : b < 2 ^ 31) (hab : a ≤ b) : p < nI a ∨ nI b < p ∨ ∃ s, a ≤ s ∧ s ≤ b ∧ p = nI s := by
  by_cases h : p < nI a
  · exact Or.inl h
  · by_cases h2 : nI b < p
    · exact Or.inr (Or.inl h2)
    · refine Or.inr (Or.inr ?_)
      have h1 := Int32.le_iff_toInt_le.mp (Int32.not_lt.mp h)
      have h3 := Int32.le_iff_toInt_le.mp (Int32.not_lt.mp h2)
      rw [nI_toInt (by omega)] at h1 h3
      obtain ⟨q, hq, e⟩ := nI_of3 (x := p) (b := b) (by omega) h3 hb
      rw [e, nI_toInt (by omega)] at h1
      exact ⟨q, by omega, hq, e⟩
theorem rng2_no {p : Int32} {a b : Nat} (hb : b < 2 ^ 31) (hab : a ≤ b) (h : p < nI a ∨ nI b < p) : ¬ ∃ s, a ≤ s ∧ s ≤ b ∧ p = nI s := by
  rintro ⟨s, h1, h2, rfl⟩
  rcases h with h | h
  · rw [nI_ltI (by omega) (by omega)] at h; omega
  · rw [nI_ltI (by omega) (by omega)] at h; omega
set_option maxRecDepth 100000 in
theorem c_needGrain {p : Int32} (q1 : ∀ s, 1 ≤ s → s ≤ 6 → p = nI s → Q (.inl none) sh σ) (q0 : (¬ ∃ s, 1 ≤ s ∧ s ≤ 6 ∧ p = nI s) → Q (.inr 2) sh σ) : mD (d + 1) 60 [.int p] sh σ Q := by
  refine ⟨rfl, fun X hX => ?_⟩
  have bad : (p < nI 1 ∨ nI 6 < p) → X 11 [none] [] sh σ 0 0 := by
    intro h
    refine hX _ _ _ _ _ _ _ ?_
    exact q0 (rng2_no (by omega) (by omega) h)
  refine hX _ _ _ _ _ _ _ ?_
  rcases rng2 (p := p) (a := 1) (b := 6) (by omega) (by omega) with h | h | ⟨s, h1, h2, rfl⟩
  · exact ⟨fun _ => bad (Or.inl h), fun z => absurd h z⟩
  · exact ⟨fun _ => bad (Or.inr h), fun _ => ⟨fun z => absurd h (Int32.not_lt.mpr z), fun _ => bad (Or.inr h)⟩⟩
  · refine ⟨fun z => absurd z (nI_nlt h1 (by omega)), fun _ => ⟨fun _ => ?_, fun z => absurd (nI_le h2 (by omega)) z⟩⟩
    refine hX _ _ _ _ _ _ _ ?_
    exact q1 s h1 h2 rfl
set_option maxRecDepth 100000 in
theorem c_needTrialDays {p : Int32} (q1 : ∀ s, s ≤ 60 → p = nI s → Q (.inl none) sh σ) (q0 : (¬ ∃ s, 0 ≤ s ∧ s ≤ 60 ∧ p = nI s) → Q (.inr 0) sh σ) : mD (d + 1) 61 [.int p] sh σ Q := by
  refine ⟨rfl, fun X hX => ?_⟩
  have bad : (p < nI 0 ∨ nI 60 < p) → X 10 [none] [] sh σ 0 0 := by
    intro h
    refine hX _ _ _ _ _ _ _ ?_
    exact q0 (rng2_no (by omega) (by omega) h)
  refine hX _ _ _ _ _ _ _ ?_
  rcases rng2 (p := p) (a := 0) (b := 60) (by omega) (by omega) with h | h | ⟨s, h1, h2, rfl⟩
  · exact ⟨fun _ => bad (Or.inl h), fun z => absurd h z⟩
  · exact ⟨fun _ => bad (Or.inr h), fun _ => ⟨fun z => absurd h (Int32.not_lt.mpr z), fun _ => bad (Or.inr h)⟩⟩
  · refine ⟨fun z => absurd z (nI_pos (by omega)), fun _ => ⟨fun _ => ?_, fun z => absurd (nI_le h2 (by omega)) z⟩⟩
    refine hX _ _ _ _ _ _ _ ?_
    exact q1 s h2 rfl
set_option maxRecDepth 100000 in
theorem c_ymix {p g : Int32} (hB : BD m n nc ns nd) (hR : RYs σ m) (q1 : ∀ s k, s < n → p = nI s → 1 ≤ k → k ≤ 6 → g = nI k → Q (.inl (some (.int (m (22 + 9 * s + k))))) sh_9 σ) (q0 : ¬ ((∃ s, s < n ∧ p = nI s) ∧ ∃ k, 1 ≤ k ∧ k ≤ 6 ∧ g = nI k) → Q (.inr 2) sh_9 σ) : mD (d + 2) 7 [.ref 0, .int p, .int g] sh_9 σ Q := by
  have hn := hB.1.2
  refine ⟨rfl, fun X hX => ?_⟩
  refine hX _ _ _ _ _ _ _ ?_
  refine c_needStreet hB hR (fun s hs e => ?_) (fun h => q0 (fun z => h z.1))
  refine c_needGrain (fun k h1 h2 e2 => ?_) (fun h => q0 (fun z => h z.2))
  subst e; subst e2
  refine c_mixOf (by omega) h1 (by omega) (qs rfl hR) ?_
  exact qw (Q := Q) (qn rfl) (q1 s k hs rfl h1 h2 rfl)
set_option maxRecDepth 100000 in
theorem c_ymesh {p : Int32} (hB : BD m n nc ns nd) (hR : RYs σ m) (q1 : ∀ s, s < ns → p = nI s → Q (.inl (some (.int (m (89 + s))))) sh_9 σ) (q0 : (¬ ∃ s, s < ns ∧ p = nI s) → Q (.inr 2) sh_9 σ) : mD (d + 1) 9 [.ref 0, .int p] sh_9 σ Q := by
  have hn := hB.2.2.1.2
  have e : σ 5 9 = nI ns := (hR.g rf0.2.2.1).trans hB.2.2.1.1
  refine ⟨rfl, fun X hX => ?_⟩
  have bad : (¬ ∃ s, s < ns ∧ p = nI s) → X 15 [none, none] [] sh_9 σ 0 0 := by
    intro h
    refine hX _ _ _ _ _ _ _ ?_
    exact q0 h
  refine hX _ _ _ _ _ _ _ ?_
  rcases pk_ix p (n := ns) (by omega) with h | h | ⟨s, hs, rfl⟩
  · exact ⟨fun _ => bad (rng_no (by omega) (Or.inl h)), fun z => absurd h z⟩
  · exact ⟨fun _ => bad (rng_no (by omega) (Or.inr h)), fun _ => ⟨fun z => absurd (show p < σ 5 9 from z) (by rw [e]; exact Int32.not_lt.mpr h), fun _ => bad (rng_no (by omega) (Or.inr h))⟩⟩
  · refine ⟨fun z => absurd z (nI_pos (by omega)), fun _ => ⟨fun _ => ?_, fun z => absurd (show nI s < σ 5 9 from by rw [e]; exact nI_lt hs (by omega)) z⟩⟩
    refine hX _ _ _ _ _ _ _ ?_
    refine ⟨vp_in_nI (by omega) (by omega), ?_⟩
    refine qi ?_ (q1 s hs rfl)
    show _ = σ 9 (nI s).toNatClampNeg
    rw [nI_clamp (by omega)]
    exact (RS.get (σ := fun j => σ (mgl [(5, 9)] j)) hR (rq4 s (by omega))).symm
set_option maxRecDepth 100000 in
theorem c_ycontract {p w : Int32} (hB : BD m n nc ns nd) (hR : RYs σ m) (q1 : ∀ s k, s < nd → p = nI s → k < 5 → w = nI k → Q (.inl (some (.int (m (93 + 5 * s + k))))) sh_9 σ) (q0 : (¬ ∃ s, s < nd ∧ p = nI s) → Q (.inr 2) sh_9 σ) (q2 : (∃ s, s < nd ∧ p = nI s) → (¬ ∃ k, k < 5 ∧ w = nI k) → Q (.inr 4) sh_9 σ) : mD (d + 2) 10 [.ref 0, .int p, .int w] sh_9 σ Q := by
  have hn := hB.2.2.2.1.2
  refine ⟨rfl, fun X hX => ?_⟩
  refine hX _ _ _ _ _ _ _ ?_
  refine c_needContract hB hR (fun s hs e => ?_) q0
  have bad : (¬ ∃ k, k < 5 ∧ w = nI k) → X 14 [none, none, none] [] sh_9 σ 1 6 := by
    intro h
    refine hX _ _ _ _ _ _ _ ?_
    exact q2 ⟨s, hs, e⟩ h
  rcases pk_ix w (n := 5) (by omega) with h | h | ⟨k, hk, rfl⟩
  · exact ⟨fun _ => bad (rng_no (by omega) (Or.inl h)), fun z => absurd h z⟩
  · exact ⟨fun _ => bad (rng_no (by omega) (Or.inr h)), fun _ => ⟨fun z => absurd z (Int32.not_lt.mpr h), fun _ => bad (rng_no (by omega) (Or.inr h))⟩⟩
  · refine ⟨fun z => absurd z (nI_pos (by omega)), fun _ => ⟨fun _ => ?_, fun z => absurd (nI_lt hk (by omega)) z⟩⟩
    refine hX _ _ _ _ _ _ _ ?_
    subst e
    refine c_dealOf (by omega) hk (qs rfl hR) ?_
    exact qw (Q := Q) (qn rfl) (q1 s k hs rfl hk rfl)
set_option maxRecDepth 100000 in
theorem c_yheap {g : Int32} (hR : RYs σ m) (q1 : ∀ k, 1 ≤ k → k ≤ 6 → g = nI k → Q (.inl (some (.int (m (13 + k))))) sh_9 σ) (q0 : (¬ ∃ k, 1 ≤ k ∧ k ≤ 6 ∧ g = nI k) → Q (.inr 2) sh_9 σ) : mD (d + 2) 11 [.ref 0, .int g] sh_9 σ Q := by
  refine ⟨rfl, fun X hX => ?_⟩
  refine hX _ _ _ _ _ _ _ ?_
  refine c_needGrain (fun k h1 h2 e2 => ?_) q0
  subst e2
  refine ⟨vp_in_nI (by omega) (by omega), ?_⟩
  refine qi ?_ (q1 k h1 h2 rfl)
  show _ = σ 11 (nI k).toNatClampNeg
  rw [nI_clamp (by omega)]
  exact (RS.get (σ := fun j => σ (mgl [(5, 9)] j)) hR (rqh k (by omega) h1)).symm
/-- a street, or none, or no such one -/
def sOk (n : Nat) (p : Int32) : Prop := p = -(nI 1) ∨ ∃ s, s < n ∧ p = nI s
set_option maxRecDepth 100000 in
theorem c_yway {p w : Int32} (hB : BD m n nc ns nd) (hR : RYs σ m) (q1 : ∀ s o : Option Nat, (∀ k, s = some k → k < n) → (∀ k, o = some k → k < n) → p = oN s → w = oN o → Q (.inl (some (.int (sWay m s o)))) sh_9 σ) (q0 : ¬ (sOk n p ∧ sOk n w) → Q (.inr 2) sh_9 σ) : mD (d + 3) 12 [.ref 0, .int p, .int w] sh_9 σ Q := by
  have hn := hB.1.2
  refine ⟨rfl, fun X hX => ?_⟩
  have last : ∀ s o : Option Nat, (∀ k, s = some k → k < n) → (∀ k, o = some k → k < n) → p = oN s → w = oN o → ∀ c q, (c = 0 ∧ q = 0 ∨ c = 1 ∧ q = 6 ∨ c = 2 ∧ q = 12) → X 20 [some (.ref 0), some (.int p), some (.int w)] [] sh_9 σ c q := by
    intro s o h1 h2 e1 e2 c q hc
    have hq := q1 s o h1 h2 e1 e2
    subst e1; subst e2
    rcases hc with ⟨rfl, rfl⟩ | ⟨rfl, rfl⟩ | ⟨rfl, rfl⟩
    · refine hX _ _ _ _ _ _ _ ?_
      refine c_distance (fun k h => by have := h1 k h; omega) (fun k h => by have := h2 k h; omega) (qs rfl hR) ?_
      exact qw (Q := Q) (qn rfl) hq
    · refine hX _ _ _ _ _ _ _ ?_
      refine c_distance (fun k h => by have := h1 k h; omega) (fun k h => by have := h2 k h; omega) (qs rfl hR) ?_
      exact qw (Q := Q) (qn rfl) hq
    · refine hX _ _ _ _ _ _ _ ?_
      refine c_distance (fun k h => by have := h1 k h; omega) (fun k h => by have := h2 k h; omega) (qs rfl hR) ?_
      exact qw (Q := Q) (qn rfl) hq
  have mid : ∀ s : Option Nat, (∀ k, s = some k → k < n) → p = oN s → ∀ c q, (c = 0 ∧ q = 0 ∨ c = 1 ∧ q = 6) → X 10 [some (.ref 0), some (.int p), some (.int w)] [] sh_9 σ c q := by
    intro s h1 e1 c q hc
    rcases hc with ⟨rfl, rfl⟩ | ⟨rfl, rfl⟩
    · refine hX _ _ _ _ _ _ _ ?_
      refine ⟨fun h => ?_, fun h => ?_⟩
      · exact last s none h1 (fun k h => by cases h) e1 h 0 0 (Or.inl ⟨rfl, rfl⟩)
      · refine c_needStreet hB hR (fun o ho e => ?_) (fun z => q0 (fun y => y.2.elim h z))
        exact last s (some o) h1 (fun k h => by cases h; exact ho) e1 e 1 6 (Or.inr (Or.inl ⟨rfl, rfl⟩))
    · refine hX _ _ _ _ _ _ _ ?_
      refine ⟨fun h => ?_, fun h => ?_⟩
      · exact last s none h1 (fun k h => by cases h) e1 h 1 6 (Or.inr (Or.inl ⟨rfl, rfl⟩))
      · refine c_needStreet hB hR (fun o ho e => ?_) (fun z => q0 (fun y => y.2.elim h z))
        exact last s (some o) h1 (fun k h => by cases h; exact ho) e1 e 2 12 (Or.inr (Or.inr ⟨rfl, rfl⟩))
  refine hX _ _ _ _ _ _ _ ?_
  refine ⟨fun h => ?_, fun h => ?_⟩
  · exact mid none (fun k h => by cases h) h 0 0 (Or.inl ⟨rfl, rfl⟩)
  · refine c_needStreet hB hR (fun o ho e => ?_) (fun z => q0 (fun y => y.1.elim h z))
    exact mid (some o) (fun k h => by cases h; exact ho) e 1 6 (Or.inr ⟨rfl, rfl⟩)
set_option maxRecDepth 100000 in
theorem c_partOf {s : Nat} (hs : s < n) (hB : BD m n nc ns nd) (hR : RYs σ m) (hq : Q (.inl (some (.int (sPt m n s)))) sh_9 σ) : mD (d + 2) 63 [.ref 0, .int (nI s)] sh_9 σ Q := by
  have hn := hB.1.2
  refine ⟨rfl, fun X hX => ?_⟩
  have loop : ∀ j k W, n - k = j → k ≤ n → W = σ → X 4 [some (.ref 0), some (.int (nI s)), some (.int (sWA m k)), some (.int (nI k))] [] sh_9 W 0 0 := by
    intro j
    induction j with
    | zero =>
      intro k W hj hk hW
      subst hW
      have e : W 5 7 = nI n := (hR.g rf0.1).trans hB.1.1
      have ek : k = n := by omega
      subst ek
      refine hX _ _ _ _ _ _ _ ?_
      refine b_ge rfl e (by omega) (by omega) (fun _ => ?_) (fun h => by omega)
      refine hX _ _ _ _ _ _ _ ?_
      unfold sPt at hq
      refine ⟨fun h => ?_, fun h => ?_⟩
      · have h : ¬ sWA m k = nI 0 := h
        rw [if_neg h] at hq
        refine hX _ _ _ _ _ _ _ ?_
        refine c_waitsOf (by omega) (qs rfl hR) ?_
        refine ⟨h, ?_⟩
        refine hX _ _ _ _ _ _ _ ?_
        exact qw (Q := Q) (qn rfl) hq
      · have h : sWA m k = nI 0 := h
        rw [if_pos h] at hq
        refine hX _ _ _ _ _ _ _ ?_
        exact hq
    | succ j ih =>
      intro k W hj hk hW
      subst hW
      have e : W 5 7 = nI n := (hR.g rf0.1).trans hB.1.1
      refine hX _ _ _ _ _ _ _ ?_
      refine b_ge rfl e (by omega) (by omega) (fun h => by omega) (fun _ => ?_)
      refine c_waitsOf (by omega) (qs rfl hR) ?_
      have h9 := ih (k + 1) _ (by omega) (by omega) (qn rfl)
      rw [← nI_1 k] at h9
      exact h9
  refine hX _ _ _ _ _ _ _ ?_
  exact loop _ 0 σ rfl (Nat.zero_le _) rfl
end CYQ
