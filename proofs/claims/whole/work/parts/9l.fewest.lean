/-! BOTH SIDES: the fewest sieves -/
def nx1 (m : Nat → Int32) (k C : Nat) : Nat := if 1 < dLo m k then C ||| 2 ^ dLo m k else C
def nx2 (m : Nat → Int32) (k C : Nat) : Nat := if dHi m k < 6 then C ||| 2 ^ (dHi m k + 1) else C
/-- the cuts that are needed -/
def neN (m : Nat → Int32) : Nat → Nat
  | 0 => 0
  | k + 1 => if opB m k = true then nx2 m k (nx1 m k (neN m k)) else neN m k
def sFw (m : Nat → Int32) (ns nd : Nat) : Int32 := oM (-(nI 1)) (fwA (mN m) (neN m nd) ns)
theorem or_n0 (x : Int32) : x ||| nI 0 = x := by
  refine b_ext (fun i hi => ?_)
  rw [b_or, show nI 0 = 0 from rfl, b_0, Bool.or_false]
theorem nx1_ok {m : Nat → Int32} {n nc ns nd k C : Nat} (hB : BD m n nc ns nd) (hk : k < nd) (hC : C < 128) (h4 : C % 4 = 0) : nx1 m k C < 128 ∧ nx1 m k C % 4 = 0 := by
  obtain ⟨d1, d2, d3, d4, d5⟩ := hB.dl hk
  unfold nx1
  split
  · exact bit_4 C hC _ (by omega) h4 (by omega)
  · exact ⟨hC, h4⟩
theorem nx2_ok {m : Nat → Int32} {n nc ns nd k C : Nat} (hB : BD m n nc ns nd) (hk : k < nd) (hC : C < 128) (h4 : C % 4 = 0) : nx2 m k C < 128 ∧ nx2 m k C % 4 = 0 := by
  obtain ⟨d1, d2, d3, d4, d5⟩ := hB.dl hk
  unfold nx2
  split
  · exact bit_4 C hC _ (by omega) h4 (by omega)
  · exact ⟨hC, h4⟩
theorem neN_ok {m : Nat → Int32} {n nc ns nd : Nat} (hB : BD m n nc ns nd) : ∀ k, k ≤ nd → neN m k < 128 ∧ neN m k % 4 = 0
  | 0, _ => ⟨Nat.zero_lt_succ 127, rfl⟩
  | k + 1, h => by
    have ih := neN_ok hB k (by omega)
    unfold neN
    split
    · have a := nx1_ok hB (show k < nd by omega) ih.1 ih.2
      exact nx2_ok hB (show k < nd by omega) a.1 a.2
    · exact ih
theorem or_sub {N C j : Nat} : ((N ||| 2 ^ j) &&& C = N ||| 2 ^ j) ↔ (N &&& C = N ∧ C.testBit j = true) := by
  constructor
  · intro h
    have hb : ∀ i, (N ||| 2 ^ j).testBit i = true → C.testBit i = true := fun i hi => sub_bit h hi
    refine ⟨Nat.eq_of_testBit_eq (fun i => ?_), hb j (by rw [Nat.testBit_or, Nat.testBit_two_pow_self, Bool.or_true])⟩
    rw [Nat.testBit_and]
    cases e : N.testBit i with
    | false => rfl
    | true => rw [hb i (by rw [Nat.testBit_or, e, Bool.true_or])]; rfl
  · rintro ⟨h1, h2⟩
    refine Nat.eq_of_testBit_eq (fun i => ?_)
    rw [Nat.testBit_and, Nat.testBit_or, Nat.testBit_two_pow]
    by_cases e : j = i
    · subst e; rw [h2, Bool.and_true]
    · rw [decide_eq_false e, Bool.or_false]
      cases e2 : N.testBit i with
      | false => rfl
      | true => rw [sub_bit h1 e2]; rfl
theorem cuN_cq {m : Nat → Int32} {S : Nat} (hS : S < 128) : ∀ k, k ≤ 7 → cuN m (nI S) k = cq (mN m) S k
  | 0, _ => rfl
  | k + 1, h => by
    have ih := cuN_cq (m := m) hS k (by omega)
    have es := bit_is S hS k (by omega)
    unfold cuN cq
    cases hb : S.testBit k with
    | true =>
      rw [hb, if_pos rfl] at es
      rw [if_neg (by rw [es]; decide +kernel), if_pos rfl, ih]
    | false =>
      rw [hb, if_neg (by decide)] at es
      rw [if_pos (by rw [es]; rfl), if_neg (by decide), ih]
section CFW
variable {d : Nat} {σ : mSg} {m : Nat → Int32} {Q : mPst} {n nc ns nd : Nat}
set_option maxRecDepth 100000 in
theorem c_cutsNeeded (hB : BD m n nc ns nd) (hR : RYs σ m) (hq : Q (.inl (some (.int (nI (neN m nd))))) sh_9 σ) : mD (d + 3) 68 [.ref 0] sh_9 σ Q := by
  have hn := hB.2.2.2.1.2
  refine ⟨rfl, fun X hX => ?_⟩
  have loop : ∀ r k W, nd - k = r → k ≤ nd → W = σ → X 4 [some (.ref 0), some (.int (nI (neN m k))), some (.int (nI k))] [] sh_9 W 0 0 := by
    intro r
    induction r with
    | zero =>
      intro k W hr hk hW
      subst hW
      have e : W 5 10 = nI nd := (hR.g rf0.2.2.2.1).trans hB.2.2.2.1.1
      have ek : k = nd := by omega
      subst ek
      refine hX _ _ _ _ _ _ _ ?_
      refine b_ge rfl e (by omega) (by omega) (fun _ => ?_) (fun h => by omega)
      refine hX _ _ _ _ _ _ _ ?_
      exact hq
    | succ r ih =>
      intro k W hr hk hW
      have h9 := fun W hW => ih (k + 1) W (by omega) (by omega) hW
      have e : W 5 10 = nI nd := by rw [hW]; exact (hR.g rf0.2.2.2.1).trans hB.2.2.2.1.1
      obtain ⟨d1, d2, d3, d4, d5⟩ := hB.dl (show k < nd by omega)
      have nk := neN_ok hB k (by omega)
      have a1 := nx1_ok hB (show k < nd by omega) nk.1 nk.2
      have hd : neN m (k + 1) = if opB m k = true then nx2 m k (nx1 m k (neN m k)) else neN m k := rfl
      have last : ∀ W x y, W = σ → opB m k = true → x ||| y = nI (nx2 m k (nx1 m k (neN m k))) → X 85 [some (.ref 0), none, some (.int (nI k))] [.int y, .int x] sh_9 W 0 0 := by
        intro W x y hW ho hx
        refine hX _ _ _ _ _ _ _ ?_
        refine hX _ _ _ _ _ _ _ ?_
        have h9 := h9 W hW
        rw [hd, if_pos ho, ← hx, ← nI_1 k] at h9
        exact h9
      have mid : ∀ W x y, W = σ → opB m k = true → x ||| y = nI (nx1 m k (neN m k)) → X 53 [some (.ref 0), none, some (.int (nI k))] [.int y, .int x] sh_9 W 0 0 := by
        intro W x y hW ho hx
        refine hX _ _ _ _ _ _ _ ?_
        refine c_highOf (by omega) (qs hW hR) ?_
        refine b_ge d2 (b := 6) rfl (by omega) (by omega) (fun h => ?_) (fun h => ?_)
        · refine hX _ _ _ _ _ _ _ ?_
          refine last _ (x ||| y) (nI 0) (qn hW) ho ?_
          rw [or_n0, hx, nx2, if_neg (by omega)]
        · refine c_highOf (by omega) (qs (qn hW) hR) ?_
          have e2 : m (93 + 5 * k + 1) + nI 1 = nI (dHi m k + 1) := by rw [d2, nI_add]
          refine last _ (x ||| y) (nI 1 <<< ((m (93 + 5 * k + 1) + nI 1) &&& 31)) (qn (qn hW)) ho ?_
          rw [hx, e2, nx2, if_pos h]
          exact bit_or _ a1.1 _ (by omega)
      refine hX _ _ _ _ _ _ _ ?_
      refine b_ge rfl e (by omega) (by omega) (fun h => by omega) (fun _ => ?_)
      refine c_isOpen (by omega) (qs hW hR) (fun ho => ?_) (fun ho => ?_)
      · have ho2 : opB m k = true := decide_eq_true (show m (93 + 5 * k + 4) = nI 1 from ho)
        refine ⟨fun z => absurd z (by decide +kernel), fun _ => ?_⟩
        refine c_lowOf (by omega) (qs (qn hW) hR) ?_
        refine b_le d1 (b := 1) rfl (by omega) (by omega) (fun h => ?_) (fun h => ?_)
        · refine hX _ _ _ _ _ _ _ ?_
          refine mid _ (nI (neN m k)) (nI 0) (qn (qn hW)) ho2 ?_
          rw [or_n0, nx1, if_neg (by omega)]
        · refine c_lowOf (by omega) (qs (qn (qn hW)) hR) ?_
          refine mid _ (nI (neN m k)) (nI 1 <<< (m (93 + 5 * k) &&& 31)) (qn (qn (qn hW))) ho2 ?_
          rw [d1, nx1, if_pos h]
          exact bit_or _ nk.1 _ (by omega)
      · have ho2 : ¬ opB m k = true := fun z => ho (of_decide_eq_true z : m (93 + 5 * k + 4) = nI 1)
        refine ⟨fun _ => ?_, fun z => absurd rfl z⟩
        refine hX _ _ _ _ _ _ _ ?_
        have h9 := h9 _ (qn hW)
        rw [hd, if_neg ho2, ← nI_1 k] at h9
        exact h9
  refine hX _ _ _ _ _ _ _ ?_
  exact loop _ 0 σ rfl (Nat.zero_le _) rfl
theorem grd_ok {q : Nat → Nat} {N : Nat} (hN : N < 128) : ∀ k, (∀ i, i < k → 2 ≤ q i ∧ q i ≤ 6) → k ≤ 4 → (gr q N k).1 < 128 ∧ (gr q N k).2 < 2 ^ k
  | 0, _, _ => ⟨Nat.zero_lt_succ 127, Nat.zero_lt_one⟩
  | k + 1, h, hk => by
    have ih := grd_ok (q := q) hN k (fun i hi => h i (by omega)) (by omega)
    have hq := h k (by omega)
    have h2 : 2 ^ (k + 1) = 2 * 2 ^ k := by rw [Nat.pow_succ, Nat.mul_comm]
    unfold gr
    generalize gr q N k = p at ih
    obtain ⟨c, s⟩ := p
    show (if _ then _ else _ : Nat × Nat).1 < 128 ∧ (if _ then _ else _ : Nat × Nat).2 < _
    split
    · have a1 : c < 2 ^ 7 := ih.1
      have a2 : 2 ^ q k < 2 ^ 7 := Nat.pow_lt_pow_right (by omega) (by omega)
      exact ⟨Nat.or_lt_two_pow a1 a2, Nat.or_lt_two_pow (by have := ih.2; omega) (by omega)⟩
    · exact ⟨ih.1, by have h9 : s < 2 ^ k := ih.2; show s < 2 ^ (k + 1); omega⟩
theorem bit_and1 : ∀ S, S < 128 → ∀ k, k < 7 → (decide ((nI S &&& (nI 1 <<< (nI k &&& 31))) = 0) = !S.testBit k) := by decide +kernel
set_option maxRecDepth 100000 in
theorem c_yfewest (hB : BD m n nc ns nd) (hR : RYs σ m) (hq : Q (.inl (some (.int (sFw m ns nd)))) sh_9 σ) : mD (d + 4) 25 [.ref 0] sh_9 σ Q := by
  have hn := hB.2.2.1.2
  have hN := neN_ok hB nd (Nat.le_refl _)
  unfold sFw at hq
  generalize hNe : neN m nd = N at hN hq
  have hmq : ∀ i, i < ns → 2 ≤ mN m i ∧ mN m i ≤ 6 := fun i hi => (mN_ok hB hi).2
  refine ⟨rfl, fun X hX => ?_⟩
  have e : σ 5 9 = nI ns := (hR.g rf0.2.2.1).trans hB.2.2.1.1
  have loop : ∀ r k, ns - k = r → k ≤ ns → X 12 [some (.ref 0), some (.int (nI N)), some (.int (nI (gr (mN m) N k).1)), some (.int (nI (gr (mN m) N k).2)), some (.int (nI k)), none] [] sh_9 σ 0 0 := by
    intro r
    induction r with
    | zero =>
      intro k hr hk
      have ek : k = ns := by omega
      subst ek
      have go := grd_ok (q := mN m) hN.1 k hmq hn
      refine hX _ _ _ _ _ _ _ ?_
      refine b_ge rfl e (by omega) (by omega) (fun _ => ?_) (fun h => by omega)
      unfold fwA at hq
      generalize gr (mN m) N k = p at go hq ⊢
      obtain ⟨c, s⟩ := p
      refine hX _ _ _ _ _ _ _ ?_
      refine b_ne rfl rfl (show c < 2 ^ 31 by have := go.1; simp only at this; omega) (by omega) (fun h => ?_) (fun h => ?_)
      · refine hX _ _ _ _ _ _ _ ?_
        refine hX _ _ _ _ _ _ _ ?_
        have hq : Q (.inl (some (.int (oM (-(nI 1)) (if c = N then some s else none))))) sh_9 σ := hq
        rw [if_neg h] at hq
        exact hq
      · refine hX _ _ _ _ _ _ _ ?_
        have hq : Q (.inl (some (.int (oM (-(nI 1)) (if c = N then some s else none))))) sh_9 σ := hq
        rw [if_pos h] at hq
        exact hq
    | succ r ih =>
      intro k hr hk
      have h9 := ih (k + 1) (by omega) (by omega)
      have go := grd_ok (q := mN m) hN.1 k (fun i hi => hmq i (by omega)) (by omega)
      obtain ⟨em, m1, m2⟩ := mN_ok hB (show k < ns by omega)
      have ev : σ 9 (nI k).toNatClampNeg = nI (mN m k) := by
        rw [nI_clamp (by omega), ← em]
        exact RS.get (σ := fun j => σ (mgl [(5, 9)] j)) hR (rq4 k (by omega))
      have hd : gr (mN m) N (k + 1) = (match gr (mN m) N k with | (c, s) => if (N.testBit (mN m k) && !c.testBit (mN m k)) = true then (c ||| 2 ^ mN m k, s ||| 2 ^ k) else (c, s)) := rfl
      generalize gr (mN m) N (k + 1) = p2 at h9 hd
      generalize gr (mN m) N k = p at go hd ⊢
      obtain ⟨c, s⟩ := p
      have g1 : c < 128 := go.1
      have g2 : s < 2 ^ k := go.2
      have h16 : 2 ^ k ≤ 2 ^ 4 := Nat.pow_le_pow_right (by omega) (by omega)
      have hd : p2 = if (N.testBit (mN m k) && !c.testBit (mN m k)) = true then (c ||| 2 ^ mN m k, s ||| 2 ^ k) else (c, s) := hd
      have n1 := bit_and1 N hN.1 (mN m k) (by omega)
      have n2 := bit_and1 c g1 (mN m k) (by omega)
      have no : ¬ (N.testBit (mN m k) && !c.testBit (mN m k)) = true → X 64 [some (.ref 0), some (.int (nI N)), some (.int (nI c)), some (.int (nI s)), some (.int (nI k)), none] [] sh_9 σ 0 0 := by
        intro h
        refine hX _ _ _ _ _ _ _ ?_
        rw [hd, if_neg h, ← nI_1 k] at h9
        exact h9
      refine hX _ _ _ _ _ _ _ ?_
      refine b_ge rfl e (by omega) (by omega) (fun h => by omega) (fun _ => ?_)
      refine ⟨vp_in_nI (by omega) (by omega), ?_⟩
      refine ⟨fun h => no ?_, fun h => ?_⟩
      · have h : nI N &&& (nI 1 <<< (σ 9 (nI k).toNatClampNeg &&& 31)) = 0 := h
        rw [ev] at h
        rw [decide_eq_true h] at n1
        cases hb : N.testBit (mN m k) with
        | true => rw [hb] at n1; cases n1
        | false => rw [Bool.false_and]; decide
      · have h : ¬ nI N &&& (nI 1 <<< (σ 9 (nI k).toNatClampNeg &&& 31)) = 0 := h
        rw [ev] at h
        rw [decide_eq_false h] at n1
        have b1 : N.testBit (mN m k) = true := by
          cases hb : N.testBit (mN m k) with
          | true => rfl
          | false => rw [hb] at n1; cases n1
        refine ⟨fun h2 => no ?_, fun h2 => ?_⟩
        · have h2 : ¬ nI c &&& (nI 1 <<< (σ 9 (nI k).toNatClampNeg &&& 31)) = 0 := h2
          rw [ev] at h2
          rw [decide_eq_false h2] at n2
          have b2 : c.testBit (mN m k) = true := by
            cases hb : c.testBit (mN m k) with
            | true => rfl
            | false => rw [hb] at n2; cases n2
          rw [b1, b2]; decide
        · have h2 : nI c &&& (nI 1 <<< (σ 9 (nI k).toNatClampNeg &&& 31)) = 0 := h2
          rw [ev] at h2
          rw [decide_eq_true h2] at n2
          have b2 : c.testBit (mN m k) = false := by
            cases hb : c.testBit (mN m k) with
            | true => rw [hb] at n2; cases n2
            | false => rfl
          refine hX _ _ _ _ _ _ _ ?_
          rw [hd, if_pos (by rw [b1, b2]; rfl), ← nI_1 k] at h9
          have e1 : nI c ||| (nI 1 <<< (σ 9 (nI k).toNatClampNeg &&& 31)) = nI (c ||| 2 ^ mN m k) := by rw [ev]; exact bit_or c g1 _ (by omega)
          have e2 : nI s ||| (nI 1 <<< (nI k &&& 31)) = nI (s ||| 2 ^ k) := bit_or s (by omega) k (by omega)
          rw [← e1, ← e2] at h9
          exact h9
  have h9 := loop _ 0 rfl (Nat.zero_le _)
  have fin : ∀ x, x = nI N → X 12 [some (.ref 0), some (.int x), some (.int (nI 0)), some (.int (nI 0)), some (.int (nI 0)), none] [] sh_9 σ 0 0 := by
    intro x hx
    subst hx
    exact h9
  refine hX _ _ _ _ _ _ _ ?_
  refine c_cutsNeeded hB hR ?_
  exact fin _ (congrArg nI hNe)
end CFW
section MFW
variable {d : Nat} {σ : mSg} {Q : mPst} {n nc ns nd : Nat}
/-- whether all that is wanted is parted, so far -/
def paP (m : Nat → Int32) (C k : Nat) : Prop := neN m k &&& C = neN m k
theorem g_partsAll {S : Nat} (hS : S < 128) (hB : BD (σ 1) n nc ns nd) (q1 : paP (σ 1) (cuN (σ 1) (nI S) ns) nd → Q (.inl (some (.int (nI 1)))) sh_10 σ) (q0 : ¬ paP (σ 1) (cuN (σ 1) (nI S) ns) nd → Q (.inl (some (.int (nI 0)))) sh_10 σ) : mD (d + 3) 175 [.ref 0, .int (nI S)] sh_10 σ Q := by
  have hn := hB.2.2.2.1.2
  refine ⟨rfl, fun X hX => ?_⟩
  have loop : ∀ r k x, nd - k = r → k ≤ nd → tv x (paP (σ 1) (cuN (σ 1) (nI S) ns) k) → X 4 [some (.ref 0), some (.int (nI S)), some (.int x), some (.int (nI k))] [] sh_10 σ 0 0 := by
    intro r
    induction r with
    | zero =>
      intro k x hr hk hx
      have ek : k = nd := by omega
      subst ek
      refine hX _ _ _ _ _ _ _ ?_
      refine ⟨vp_in_nI (n := 6) (by omega) (by omega), ?_⟩
      refine b_ge rfl hB.2.2.2.1.1 (by omega) (by omega) (fun _ => ?_) (fun h => by omega)
      refine hX _ _ _ _ _ _ _ ?_
      rcases hx with ⟨rfl, h⟩ | ⟨rfl, h⟩
      · exact ⟨Or.inr rfl, q1 h⟩
      · exact ⟨Or.inl rfl, q0 h⟩
    | succ r ih =>
      intro k x hr hk hx
      obtain ⟨d1, d2, d3, d4, d5⟩ := hB.dl (show k < nd by omega)
      have hd : neN (σ 1) (k + 1) = if opB (σ 1) k = true then nx2 (σ 1) k (nx1 (σ 1) k (neN (σ 1) k)) else neN (σ 1) k := rfl
      have nxt : ∀ y, tv y (paP (σ 1) (cuN (σ 1) (nI S) ns) (k + 1)) → X 77 [some (.ref 0), some (.int (nI S)), some (.int y), some (.int (nI k))] [] sh_10 σ 0 0 := by
        intro y hy
        refine hX _ _ _ _ _ _ _ ?_
        have h9 := ih (k + 1) y (by omega) (by omega) hy
        rw [← nI_1 k] at h9
        exact h9
      refine hX _ _ _ _ _ _ _ ?_
      refine ⟨vp_in_nI (n := 6) (by omega) (by omega), ?_⟩
      refine b_ge rfl hB.2.2.2.1.1 (by omega) (by omega) (fun h => by omega) (fun _ => ?_)
      refine g_isOpen (by omega) (fun ho => ?_) (fun ho => ?_)
      · have ho2 : opB (σ 1) k = true := decide_eq_true (show σ 1 (93 + 5 * k + 4) = nI 1 from ho)
        rw [if_pos ho2] at hd
        have p1 : ∀ C, (nx1 (σ 1) k (neN (σ 1) k) &&& C = nx1 (σ 1) k (neN (σ 1) k)) ↔ (neN (σ 1) k &&& C = neN (σ 1) k ∧ ib C (dLo (σ 1) k) = true) := by
          intro C
          unfold nx1 ib
          by_cases e : 1 < dLo (σ 1) k
          · rw [if_pos e, or_sub, decide_eq_false (by omega), Bool.false_or]; rfl
          · rw [if_neg e, decide_eq_true (by omega), Bool.true_or]
            exact ⟨fun h => ⟨h, rfl⟩, fun h => h.1⟩
        have p2 : ∀ C, (neN (σ 1) (k + 1) &&& C = neN (σ 1) (k + 1)) ↔ ((neN (σ 1) k &&& C = neN (σ 1) k ∧ ib C (dLo (σ 1) k) = true) ∧ (dHi (σ 1) k = 6 ∨ ib C (dHi (σ 1) k + 1) = true)) := by
          intro C
          rw [hd, ← p1 C]
          unfold nx2 ib
          by_cases e : dHi (σ 1) k < 6
          · rw [if_pos e, or_sub, decide_eq_false (by omega), Bool.false_or]
            exact ⟨fun h => ⟨h.1, Or.inr h.2⟩, fun h => ⟨h.1, h.2.resolve_left (by omega)⟩⟩
          · rw [if_neg e]
            exact ⟨fun h => ⟨h, Or.inl (by omega)⟩, fun h => h.1⟩
        have no : ¬ paP (σ 1) (cuN (σ 1) (nI S) ns) (k + 1) → X 75 [some (.ref 0), some (.int (nI S)), none, some (.int (nI k))] [] sh_10 σ 0 0 := by
          intro h
          refine hX _ _ _ _ _ _ _ ?_
          refine hX _ _ _ _ _ _ _ ?_
          exact nxt (nI 0) (Or.inr ⟨rfl, h⟩)
        have yes : paP (σ 1) (cuN (σ 1) (nI S) ns) (k + 1) → X 71 [some (.ref 0), some (.int (nI S)), none, some (.int (nI k))] [] sh_10 σ 0 0 := by
          intro h
          refine hX _ _ _ _ _ _ _ ?_
          refine hX _ _ _ _ _ _ _ ?_
          exact nxt (nI 1) (Or.inl ⟨rfl, h⟩)
        refine ⟨fun _ => ?_, fun z => absurd z (by decide +kernel)⟩
        refine hX _ _ _ _ _ _ _ ?_
        rcases hx with ⟨rfl, hP⟩ | ⟨rfl, hP⟩
        · refine ⟨fun z => absurd z (by decide +kernel), fun _ => ?_⟩
          refine g_ofDeal (w := 0) (by omega) (by omega) ?_
          refine g_isBegin d1 (by omega) hB (fun h1 => ?_) (fun h1 => ?_)
          · refine ⟨fun z => absurd z (by decide +kernel), fun _ => ?_⟩
            refine g_ofDeal (w := 1) (by omega) (by omega) ?_
            refine b_eq d2 (b := 6) rfl (by omega) (by omega) (fun h6 => yes ((p2 _).mpr ⟨⟨hP, h1⟩, Or.inl h6⟩)) (fun h6 => ?_)
            refine g_ofDeal (w := 1) (by omega) (by omega) ?_
            refine g_isBegin (g := dHi (σ 1) k + 1) (show σ 1 (93 + 5 * k + 1) + nI 1 = _ by rw [d2, nI_add]) (by omega) hB (fun h2 => ?_) (fun h2 => ?_)
            · refine ⟨fun z => absurd z (by decide +kernel), fun _ => ?_⟩
              exact yes ((p2 _).mpr ⟨⟨hP, h1⟩, Or.inr h2⟩)
            · refine ⟨fun _ => no (fun z => ?_), fun z => absurd rfl z⟩
              exact ((p2 _).mp z).2.elim h6 h2
          · refine ⟨fun _ => no (fun z => h1 ((p2 _).mp z).1.2), fun z => absurd rfl z⟩
        · refine ⟨fun _ => no (fun z => hP ((p2 _).mp z).1.1), fun z => absurd rfl z⟩
      · have ho2 : ¬ opB (σ 1) k = true := fun z => ho (of_decide_eq_true z : σ 1 (93 + 5 * k + 4) = nI 1)
        rw [if_neg ho2] at hd
        refine ⟨fun z => absurd rfl z, fun _ => ?_⟩
        refine nxt x ?_
        unfold paP
        rw [hd]
        exact hx
  refine hX _ _ _ _ _ _ _ ?_
  refine loop _ 0 (nI 1) rfl (Nat.zero_le _) (Or.inl ⟨rfl, ?_⟩)
  show 0 &&& _ = 0
  exact Nat.zero_and _
theorem fw_lt {q : Nat → Nat} {N ns : Nat} : ∀ S b, fw q N ns S = some b → b < S
  | 0, b, h => by cases h
  | S + 1, b, h => by
    unfold fw at h
    split at h
    · split at h
      · cases h; omega
      · cases h
    · rename_i b2 hb
      have := fw_lt S b2 hb
      split at h
      · split at h
        · cases h; omega
        · cases h; omega
      · cases h; omega
theorem g_fewest (hB : BD (σ 1) n nc ns nd) (hq : ∀ σ', MX σ (σ 1) (nI 0) σ' → Q (.inl (some (.int (sFw (σ 1) ns nd)))) sh_10 σ') : mD (d + 4) 176 [.ref 0] sh_10 σ Q := by
  have hBt : BD (mput σ 0 0 (nI 0) 1) n nc ns nd := hB
  have hn := hB.2.2.1.2
  have h2n : 2 ^ ns ≤ 16 := Nat.pow_le_pow_right (by omega) hn
  have hN := neN_ok hB nd (Nat.le_refl _)
  have hmq : ∀ i, i < ns → 2 ≤ mN (σ 1) i ∧ mN (σ 1) i ≤ 6 := fun i hi => (mN_ok hB hi).2
  have e4 : nI 1 <<< (σ 1 5 &&& 31) = nI (2 ^ ns) := by rw [hB.2.2.1.1]; exact bit_one ns (by omega)
  have hq := hq _ MX.th
  unfold sFw at hq
  rw [← fw_all hn hmq hN.1 hN.2] at hq
  refine ⟨rfl, fun X hX => ?_⟩
  have loop : ∀ r S, 2 ^ ns - S = r → S ≤ 2 ^ ns → X 9 [some (.ref 0), some (.int (oM (-(nI 1)) (fw (mN (σ 1)) (neN (σ 1) nd) ns S))), some (.int (nI S))] [] sh_10 (mput σ 0 0 (nI 0)) 0 0 := by
    intro r
    induction r with
    | zero =>
      intro S hr hS
      have eS : S = 2 ^ ns := by omega
      rw [eS]
      refine hX _ _ _ _ _ _ _ ?_
      refine ⟨vp_in_nI (n := 5) (by omega) (by omega), ?_⟩
      refine b_ge rfl e4 (by omega) (by omega) (fun _ => ?_) (fun h => by omega)
      refine hX _ _ _ _ _ _ _ ?_
      exact hq
    | succ r ih =>
      intro S hr hS
      have h9 := ih (S + 1) (by omega) (by omega)
      have hc := cuN_cq (m := σ 1) (S := S) (by omega) ns (by omega)
      have hlt := fun b => fw_lt (q := mN (σ 1)) (N := neN (σ 1) nd) (ns := ns) S b
      have hd : fw (mN (σ 1)) (neN (σ 1) nd) ns (S + 1) = (match fw (mN (σ 1)) (neN (σ 1) nd) ns S with | none => if neN (σ 1) nd &&& cq (mN (σ 1)) S ns = neN (σ 1) nd then some S else none | some b => if neN (σ 1) nd &&& cq (mN (σ 1)) S ns = neN (σ 1) nd then (if pb S 7 < pb b 7 then some S else some b) else some b) := rfl
      generalize fw (mN (σ 1)) (neN (σ 1) nd) ns (S + 1) = o2 at h9 hd
      generalize fw (mN (σ 1)) (neN (σ 1) nd) ns S = o at hd hlt ⊢
      have keep : o2 = o → X 47 [some (.ref 0), some (.int (oM (-(nI 1)) o)), some (.int (nI S))] [] sh_10 (mput σ 0 0 (nI 0)) 0 0 := by
        intro h
        refine hX _ _ _ _ _ _ _ ?_
        rw [h, ← nI_1 S] at h9
        exact h9
      have yes : o2 = some S → X 45 [some (.ref 0), none, some (.int (nI S))] [] sh_10 (mput σ 0 0 (nI 0)) 0 0 := by
        intro h
        refine hX _ _ _ _ _ _ _ ?_
        refine hX _ _ _ _ _ _ _ ?_
        rw [h, ← nI_1 S] at h9
        exact h9
      refine hX _ _ _ _ _ _ _ ?_
      refine ⟨vp_in_nI (n := 5) (by omega) (by omega), ?_⟩
      refine b_ge rfl e4 (by omega) (by omega) (fun h => by omega) (fun _ => ?_)
      refine g_partsAll (by omega) hBt (fun hp => ?_) (fun hp => ?_)
      · have hp : neN (σ 1) nd &&& cuN (σ 1) (nI S) ns = neN (σ 1) nd := hp
        rw [hc] at hp
        refine ⟨fun z => absurd z (by decide +kernel), fun _ => ?_⟩
        cases o with
        | none =>
          refine ⟨fun _ => yes ?_, fun z => absurd rfl z⟩
          have hd : o2 = if neN (σ 1) nd &&& cq (mN (σ 1)) S ns = neN (σ 1) nd then some S else none := hd
          rw [hd, if_pos hp]
        | some b =>
          have hb := hlt b rfl
          have hd : o2 = if neN (σ 1) nd &&& cq (mN (σ 1)) S ns = neN (σ 1) nd then (if pb S 7 < pb b 7 then some S else some b) else some b := hd
          rw [if_pos hp] at hd
          refine ⟨fun z => absurd z (oM_ne (by omega)), fun _ => ?_⟩
          have lS := pb_le S (by omega)
          have lb := pb_le b (by omega)
          refine g_bits rfl (show S < 128 by omega) ?_
          refine g_bits (K := b) rfl (by omega) ?_
          refine b_ge rfl rfl (by omega) (by omega) (fun h => keep ?_) (fun h => yes ?_)
          · rw [hd, if_neg (by omega)]
          · rw [hd, if_pos h]
      · have hp : ¬ neN (σ 1) nd &&& cuN (σ 1) (nI S) ns = neN (σ 1) nd := hp
        rw [hc] at hp
        refine ⟨fun _ => keep ?_, fun z => absurd rfl z⟩
        cases o with
        | none =>
          have hd : o2 = if neN (σ 1) nd &&& cq (mN (σ 1)) S ns = neN (σ 1) nd then some S else none := hd
          rw [hd, if_neg hp]
        | some b =>
          have hd : o2 = if neN (σ 1) nd &&& cq (mN (σ 1)) S ns = neN (σ 1) nd then (if pb S 7 < pb b 7 then some S else some b) else some b := hd
          rw [hd, if_neg hp]
  refine hX _ _ _ _ _ _ _ ?_
  exact loop _ 0 rfl (Nat.zero_le _)
end MFW
