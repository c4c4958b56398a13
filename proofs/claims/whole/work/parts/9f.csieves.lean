/-! SIEVES: cuts as bits; THE CLASS: classes, runs -/
def mN (m : Nat → Int32) (k : Nat) : Nat := (m (89 + k)).toNatClampNeg
/-- the cuts of a set of sieves -/
def cuN (m : Nat → Int32) (set : Int32) : Nat → Nat
  | 0 => 0
  | k + 1 => if sIs set (nI k) = 0 then cuN m set k else cuN m set k ||| 2 ^ mN m k
theorem bit_4 : ∀ C, C < 128 → ∀ q, q < 7 → C % 4 = 0 → 2 ≤ q → (C ||| 2 ^ q < 128 ∧ (C ||| 2 ^ q) % 4 = 0) := by decide +kernel
theorem mN_ok {m : Nat → Int32} {n nc ns nd k : Nat} (hB : BD m n nc ns nd) (hk : k < ns) : m (89 + k) = nI (mN m k) ∧ 2 ≤ mN m k ∧ mN m k ≤ 6 := by
  obtain ⟨q, h1, h2, h3⟩ := hB.2.2.2.2.2.2.1 k hk
  have e : mN m k = q := clN h3 (by omega)
  rw [e]
  exact ⟨h3, h1, h2⟩
theorem cuN_ok {m : Nat → Int32} {n nc ns nd : Nat} {set : Int32} (hB : BD m n nc ns nd) : ∀ k, k ≤ ns → cuN m set k < 128 ∧ cuN m set k % 4 = 0 ∧ sCut m set k = nI (cuN m set k)
  | 0, _ => ⟨Nat.zero_lt_succ 127, rfl, rfl⟩
  | k + 1, h => by
    obtain ⟨h1, h2, h3⟩ := cuN_ok (set := set) hB k (by omega)
    obtain ⟨e, q1, q2⟩ := mN_ok hB (show k < ns by omega)
    unfold cuN sCut
    split
    · exact ⟨h1, h2, h3⟩
    · have := bit_4 _ h1 (mN m k) (by omega) h2 q1
      refine ⟨this.1, this.2, ?_⟩
      rw [h3, e]
      exact bit_or _ h1 _ (by omega)
/-- where a run begins, where it ends -/
def rL (c : Nat → Bool) : Nat → Nat
  | 0 => 0
  | g + 1 => if g = 0 then 1 else if c (g + 1) = true then g + 1 else rL c g
def rH (c : Nat → Bool) : Nat → Nat → Nat
  | 0, g => g
  | j + 1, g => if c (g + 1) = true then g else rH c j (g + 1)
theorem rL_ok {c : Nat → Bool} : ∀ g, 1 ≤ g → 1 ≤ rL c g ∧ rL c g ≤ g
  | 0, h => by omega
  | g + 1, _ => by
    unfold rL
    split
    · omega
    · rename_i g0
      split
      · omega
      · have := rL_ok (c := c) g (by omega)
        omega
theorem rH_ok {c : Nat → Bool} : ∀ j g, g ≤ rH c j g ∧ rH c j g ≤ g + j
  | 0, g => by unfold rH; omega
  | j + 1, g => by
    unfold rH
    split
    · omega
    · have := rH_ok (c := c) j (g + 1)
      omega
def cb (C g : Nat) : Bool := C.testBit g
/-- how many bits -/
def pb (K : Nat) : Nat → Nat
  | 0 => 0
  | k + 1 => pb K k + (if K.testBit k = true then 1 else 0)
def us (x : Int32) (k : Nat) : Int32 := (x.toUInt32 >>> ((nI k).toUInt32 &&& Int32.toUInt32 31)).toInt32
def bc1 (x : Int32) : Int32 := x - (us x 1 &&& nI 1431655765)
def bc2 (x : Int32) : Int32 := (x &&& nI 858993459) + (us x 2 &&& nI 858993459)
def bc3 (x : Int32) : Int32 := (x + us x 4) &&& nI 252645135
def bc4 (x : Int32) : Int32 := x + us x 8
def bc5 (x : Int32) : Int32 := (x + us x 16) &&& nI 63
theorem bc_all : ∀ K, K < 128 → nI (pb K 7) = bc5 (bc4 (bc3 (bc2 (bc1 (nI K))))) := by decide +kernel
/-- classes -/
def sb (C : Nat) : Nat → Nat
  | 0 => 0
  | g + 1 => sb C g + (if g + 1 = 1 ∨ cb C (g + 1) = true then 1 else 0)
theorem sb_pb : ∀ C, C < 128 → C % 4 = 0 → 1 + pb C 7 = sb C 6 := by decide +kernel
section CSI
variable {d : Nat} {σ : mSg} {m : Nat → Int32} {Q : mPst} {n nc ns nd : Nat} {sh : List mSh}
theorem c_heapSumE {lo hi : Nat} {x y : Int32} (hx : x = nI lo) (hy : y = nI hi) (h1 : 1 ≤ lo) (h2 : hi ≤ 6) (h3 : lo ≤ 6) (hR : RS σ m) (hq : Q (.inl (some (.int (sHS m lo (hi + 1 - lo))))) sh_7 σ) : mD (d + 1) 316 [.ref 0, .int x, .int y] sh_7 σ Q := by
  subst hx; subst hy
  exact c_heapSum h1 h2 h3 hR hq
theorem c_bitCount {K : Nat} {x : Int32} (hx : x = nI K) (hK : K < 128) (hq : Q (.inl (some (.int (nI (pb K 7))))) sh σ) : mD (d + 1) 382 [.int x] sh σ Q := by
  subst hx
  refine ⟨rfl, fun X hX => ?_⟩
  refine hX _ _ _ _ _ _ _ ?_
  exact qi (bc_all K hK) hq
theorem c_isCut {C g : Nat} {x y : Int32} (hx : x = nI C) (hy : y = nI g) (hC : C < 128) (hg : g < 7) (q1 : cb C g = true → Q (.inl (some (.int (nI 1)))) sh σ) (q0 : ¬ cb C g = true → Q (.inl (some (.int (nI 0)))) sh σ) : mD (d + 1) 65 [.int x, .int y] sh σ Q := by
  subst hx; subst hy
  have e := bit_sh C hC g hg
  refine ⟨rfl, fun X hX => ?_⟩
  refine hX _ _ _ _ _ _ _ ?_
  refine ⟨fun h => ?_, fun h => ?_⟩
  · have h : (nI C >>> (nI g &&& 31)) &&& nI 1 = 0 := h
    refine hX _ _ _ _ _ _ _ ?_
    refine hX _ _ _ _ _ _ _ ?_
    refine ⟨Or.inl rfl, q0 (fun z => ?_)⟩
    unfold cb at z
    rw [if_pos z] at e
    rw [e] at h
    exact absurd h (by decide +kernel)
  · have h : ¬ (nI C >>> (nI g &&& 31)) &&& nI 1 = 0 := h
    refine hX _ _ _ _ _ _ _ ?_
    refine ⟨Or.inr rfl, q1 ?_⟩
    unfold cb
    cases hb : C.testBit g with
    | true => rfl
    | false =>
      rw [hb, if_neg (by decide)] at e
      exact absurd e h
theorem c_runLow {C g : Nat} {x y : Int32} (hx : x = nI C) (hy : y = nI g) (hC : C < 128) (h1 : 1 ≤ g) (hg : g < 7) (hq : Q (.inl (some (.int (nI (rL (cb C) g))))) sh σ) : mD (d + 2) 66 [.int x, .int y] sh σ Q := by
  subst hx; subst hy
  refine ⟨rfl, fun X hX => ?_⟩
  have loop : ∀ k, 1 ≤ k → k < 7 → rL (cb C) k = rL (cb C) g → X 2 [some (.int (nI C)), none, some (.int (nI k))] [] sh σ 0 0 := by
    intro k
    induction k with
    | zero => intro h; omega
    | succ k ih =>
      intro k1 k7 e
      refine hX _ _ _ _ _ _ _ ?_
      refine b_le rfl (b := 1) rfl (by omega) (by omega) (fun h => ?_) (fun h => ?_)
      · have k0 : k = 0 := by omega
        subst k0
        refine hX _ _ _ _ _ _ _ ?_
        rw [← e] at hq
        exact hq
      · have ed : rL (cb C) (k + 1) = if cb C (k + 1) = true then k + 1 else rL (cb C) k := by rw [rL, if_neg (by omega)]
        refine c_isCut rfl rfl hC k7 (fun hc => ?_) (fun hc => ?_)
        · refine ⟨fun _ => ?_, fun z => absurd z (by decide +kernel)⟩
          refine hX _ _ _ _ _ _ _ ?_
          rw [if_pos hc] at ed
          rw [← e, ed] at hq
          exact hq
        · refine ⟨fun z => absurd rfl z, fun _ => ?_⟩
          rw [if_neg hc] at ed
          have h9 := ih (by omega) (by omega) (by rw [← ed]; exact e)
          have e3 : nI (k + 1) - nI 1 = nI k := by rw [nI_sub (by omega), Nat.add_sub_cancel]
          rw [← e3] at h9
          exact h9
  refine hX _ _ _ _ _ _ _ ?_
  exact loop g h1 hg rfl
theorem c_runHigh {C g : Nat} {x y : Int32} (hx : x = nI C) (hy : y = nI g) (hC : C < 128) (h1 : 1 ≤ g) (hg : g < 7) (hq : Q (.inl (some (.int (nI (rH (cb C) (6 - g) g))))) sh σ) : mD (d + 2) 67 [.int x, .int y] sh σ Q := by
  subst hx; subst hy
  refine ⟨rfl, fun X hX => ?_⟩
  have loop : ∀ j k, 6 - k = j → k ≤ 6 → rH (cb C) j k = rH (cb C) (6 - g) g → X 2 [some (.int (nI C)), none, some (.int (nI k))] [] sh σ 0 0 := by
    intro j
    induction j with
    | zero =>
      intro k hk k6 e
      have ek : k = 6 := by omega
      subst ek
      refine hX _ _ _ _ _ _ _ ?_
      refine b_ge rfl (b := 6) rfl (by omega) (by omega) (fun h => ?_) (fun h => by omega)
      refine hX _ _ _ _ _ _ _ ?_
      rw [← e] at hq
      exact hq
    | succ j ih =>
      intro k hk k6 e
      refine hX _ _ _ _ _ _ _ ?_
      refine b_ge rfl (b := 6) rfl (by omega) (by omega) (fun h => by omega) (fun h => ?_)
      have ed : rH (cb C) (j + 1) k = if cb C (k + 1) = true then k else rH (cb C) j (k + 1) := rfl
      refine c_isCut (g := k + 1) rfl (nI_add k 1) hC (by omega) (fun hc => ?_) (fun hc => ?_)
      · refine ⟨fun _ => ?_, fun z => absurd z (by decide +kernel)⟩
        refine hX _ _ _ _ _ _ _ ?_
        rw [if_pos hc] at ed
        rw [← e, ed] at hq
        exact hq
      · refine ⟨fun z => absurd rfl z, fun _ => ?_⟩
        rw [if_neg hc] at ed
        have h9 := ih (k + 1) (by omega) (by omega) (by rw [← ed]; exact e)
        rw [← nI_1 k] at h9
        exact h9
  refine hX _ _ _ _ _ _ _ ?_
  exact loop _ g rfl (by omega) rfl
/-- the run of a grain, the heap of runs -/
def sCO (m : Nat → Int32) (ns : Nat) (set : Int32) (g : Nat) : Int32 := nI 10 * nI (rL (cb (cuN m set ns)) g) + nI (rH (cb (cuN m set ns)) (6 - g) g)
def sHe (m : Nat → Int32) (ns : Nat) (set : Int32) (lo hi : Nat) : Int32 := sHS m (rL (cb (cuN m set ns)) lo) (rH (cb (cuN m set ns)) (6 - hi) hi + 1 - rL (cb (cuN m set ns)) lo)
def sCl (m : Nat → Int32) (ns : Nat) (set : Int32) (k : Nat) : Int32 := if sHe m ns set (dLo m k) (dHi m k) = 0 then nI 100 else sHS m (dLo m k) (dHi m k + 1 - dLo m k) * nI 100 / sHe m ns set (dLo m k) (dHi m k)
set_option maxRecDepth 100000 in
theorem c_yclasses {p : Int32} (hB : BD m n nc ns nd) (hR : RYs σ m) (hq : Q (.inl (some (.int (nI (sb (cuN m p ns) 6))))) sh_9 σ) : mD (d + 2) 22 [.ref 0, .int p] sh_9 σ Q := by
  obtain ⟨c1, c2, c3⟩ := cuN_ok (set := p) hB ns (Nat.le_refl _)
  refine ⟨rfl, fun X hX => ?_⟩
  refine hX _ _ _ _ _ _ _ ?_
  refine c_cutsOf hB.2.2.1.2 hB.2.2.1.1 (qs rfl hR) ?_
  refine c_bitCount c3 c1 ?_
  rw [← sb_pb _ c1 c2, ← nI_add] at hq
  exact qw (Q := Q) (qn rfl) hq
set_option maxRecDepth 100000 in
theorem c_yclassOf {p g : Int32} (hB : BD m n nc ns nd) (hR : RYs σ m) (q1 : ∀ k, 1 ≤ k → k ≤ 6 → g = nI k → Q (.inl (some (.int (sCO m ns p k)))) sh_9 σ) (q0 : (¬ ∃ k, 1 ≤ k ∧ k ≤ 6 ∧ g = nI k) → Q (.inr 2) sh_9 σ) : mD (d + 3) 23 [.ref 0, .int p, .int g] sh_9 σ Q := by
  obtain ⟨c1, c2, c3⟩ := cuN_ok (set := p) hB ns (Nat.le_refl _)
  refine ⟨rfl, fun X hX => ?_⟩
  refine hX _ _ _ _ _ _ _ ?_
  refine c_needGrain (fun k h1 h2 e => ?_) q0
  subst e
  refine c_cutsOf hB.2.2.1.2 hB.2.2.1.1 (qs rfl hR) ?_
  refine c_runLow c3 rfl c1 h1 (by omega) ?_
  refine c_runHigh c3 rfl c1 h1 (by omega) ?_
  exact qw (Q := Q) (qn rfl) (q1 k h1 h2 rfl)
set_option maxRecDepth 100000 in
theorem c_yheld {p g : Int32} (hB : BD m n nc ns nd) (hR : RYs σ m) (q1 : ∀ k, 1 ≤ k → k ≤ 6 → g = nI k → Q (.inl (some (.int (sHe m ns p k k)))) sh_9 σ) (q0 : (¬ ∃ k, 1 ≤ k ∧ k ≤ 6 ∧ g = nI k) → Q (.inr 2) sh_9 σ) : mD (d + 3) 24 [.ref 0, .int p, .int g] sh_9 σ Q := by
  obtain ⟨c1, c2, c3⟩ := cuN_ok (set := p) hB ns (Nat.le_refl _)
  refine ⟨rfl, fun X hX => ?_⟩
  refine hX _ _ _ _ _ _ _ ?_
  refine c_needGrain (fun k h1 h2 e => ?_) q0
  subst e
  refine c_cutsOf hB.2.2.1.2 hB.2.2.1.1 (qs rfl hR) ?_
  refine c_runLow c3 rfl c1 h1 (by omega) ?_
  refine c_runHigh c3 rfl c1 h1 (by omega) ?_
  have a1 := rL_ok (c := cb (cuN m p ns)) k h1
  have a2 := rH_ok (c := cb (cuN m p ns)) (6 - k) k
  refine c_heapSum a1.1 (by omega) (by omega) (qs rfl hR.sm) ?_
  exact qw (Q := Q) (qn (qn rfl)) (q1 k h1 h2 rfl)
set_option maxRecDepth 100000 in
theorem c_yclean {p s : Int32} (hB : BD m n nc ns nd) (hR : RYs σ m) (q1 : ∀ k, k < nd → p = nI k → Q (.inl (some (.int (sCl m ns s k)))) sh_9 σ) (q0 : (¬ ∃ k, k < nd ∧ p = nI k) → Q (.inr 2) sh_9 σ) : mD (d + 3) 26 [.ref 0, .int p, .int s] sh_9 σ Q := by
  obtain ⟨c1, c2, c3⟩ := cuN_ok (set := s) hB ns (Nat.le_refl _)
  have hn := hB.2.2.2.1.2
  refine ⟨rfl, fun X hX => ?_⟩
  refine hX _ _ _ _ _ _ _ ?_
  refine c_needContract hB hR (fun k hk e => ?_) q0
  have hq := q1 k hk e
  subst e
  obtain ⟨d1, d2, d3, d4, d5⟩ := hB.dl hk
  unfold sCl at hq
  refine c_cutsOf hB.2.2.1.2 hB.2.2.1.1 (qs rfl hR) ?_
  have w1 : RYs (mback [(5, 9)] σ (fun j => σ (mgl [(5, 9)] j))) m := hR.sm
  refine c_lowOf (by omega) (qs rfl w1) ?_
  refine c_highOf (by omega) (qs rfl w1.sm) ?_
  refine c_runLow c3 d1 c1 d3 (by omega) ?_
  refine c_runHigh c3 d2 c1 (by omega) (by omega) ?_
  have a1 := rL_ok (c := cb (cuN m s ns)) (dLo m k) d3
  have a2 := rH_ok (c := cb (cuN m s ns)) (6 - dHi m k) (dHi m k)
  refine c_heapSum a1.1 (by omega) (by omega) (qs rfl w1.sm.sm) ?_
  refine ⟨fun h => ?_, fun h => ?_⟩
  · have h : ¬ sHe m ns s (dLo m k) (dHi m k) = 0 := h
    rw [if_neg h] at hq
    refine hX _ _ _ _ _ _ _ ?_
    refine c_heapSumE d1 d2 d3 d5 (by omega) (qs rfl w1.sm.sm.sm) ?_
    refine ⟨h, ?_⟩
    refine hX _ _ _ _ _ _ _ ?_
    exact qw (Q := Q) (qn (qn (qn (qn (qn rfl))))) hq
  · have h : sHe m ns s (dLo m k) (dHi m k) = 0 := h
    rw [if_pos h] at hq
    refine hX _ _ _ _ _ _ _ ?_
    exact qw (Q := Q) (qn (qn (qn (qn rfl)))) hq
end CSI
