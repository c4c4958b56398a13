/-! THE MODEL: two sieves by what went through -/
theorem d10 : ∀ p, p < 100 → nI p / nI 10 = nI (p / 10) ∧ nI p - nI p / nI 10 * nI 10 = nI (p % 10) := by decide +kernel
theorem cA_3 {P : Nat → Bool} {g : Nat} : ∀ k a, cA P k a = cA (pV P g 0) k a + cA (pV P g 1) k a + cA (pV P g 2) k a
  | 0, _ => rfl
  | k + 1, a => by
    have ih := cA_3 (P := P) (g := g) k (a + 1)
    have ht := th_le (p := a) (g := g)
    rw [cA, cA, cA, cA, ih]
    unfold pV
    cases hp : P a with
    | false => simp
    | true =>
      rcases (by omega : th a g = 0 ∨ th a g = 1 ∨ th a g = 2) with h | h | h <;> simp [h] <;> omega
section MSI
variable {d : Nat} {σ : mSg} {Q : mPst} {B : Nat → Nat} {sh : List mSh}
theorem g_through {p g : Nat} {x : Int32} (hx : x = nI g) (hp : p < 100) (hg : g < 1000) (hq : Q (.inl (some (.int (nI (th p g))))) sh σ) : mD (d + 1) 192 [.int (nI p), .int x] sh σ Q := by
  obtain ⟨d1, d2⟩ := d10 p hp
  unfold th at hq
  refine ⟨rfl, fun X hX => ?_⟩
  refine hX _ _ _ _ _ _ _ ?_
  refine ⟨by decide +kernel, ?_⟩
  refine b_lt hx d1 (by omega) (by omega) (fun h => ?_) (fun h => ?_)
  · rw [if_neg (by omega)] at hq
    refine hX _ _ _ _ _ _ _ ?_
    refine ⟨by decide +kernel, ?_⟩
    refine b_lt hx d2 (by omega) (by omega) (fun h2 => ?_) (fun h2 => ?_)
    · rw [if_neg (by omega)] at hq
      refine hX _ _ _ _ _ _ _ ?_
      refine hX _ _ _ _ _ _ _ ?_
      exact hq
    · rw [if_pos h2] at hq
      refine hX _ _ _ _ _ _ _ ?_
      exact hq
  · rw [if_pos h] at hq
    refine hX _ _ _ _ _ _ _ ?_
    exact hq
theorem g_isPair {p : Nat} (hp : p < 100) (q1 : isP p = true → Q (.inl (some (.int (nI 1)))) sh σ) (q0 : ¬ isP p = true → Q (.inl (some (.int (nI 0)))) sh σ) : mD (d + 2) 193 [.int (nI p)] sh σ Q := by
  obtain ⟨d1, d2⟩ := d10 p hp
  unfold isP at q1 q0
  rw [decide_eq_true_iff] at q1 q0
  refine ⟨rfl, fun X hX => ?_⟩
  have no : ¬ (2 ≤ p / 10 ∧ p / 10 ≤ 7 ∧ 2 ≤ p % 10 ∧ p % 10 ≤ p / 10) → X 32 [none] [] sh σ 0 0 := by
    intro h
    refine hX _ _ _ _ _ _ _ ?_
    refine hX _ _ _ _ _ _ _ ?_
    exact ⟨Or.inl rfl, q0 h⟩
  refine hX _ _ _ _ _ _ _ ?_
  refine ⟨by decide +kernel, ?_⟩
  refine g_isIn (fun h => ?_) (fun h => ?_)
  · have h : sIn (nI p / nI 10) (nI 2) (nI 7) := h
    rw [d1, g2_iff (by omega) (by omega) (by omega)] at h
    refine ⟨fun z => absurd z (by decide +kernel), fun _ => ?_⟩
    refine ⟨by decide +kernel, ?_⟩
    refine ⟨by decide +kernel, ?_⟩
    refine g_isIn (fun h2 => ?_) (fun h2 => ?_)
    · have h2 : sIn (nI p - nI p / nI 10 * nI 10) (nI 2) (nI p / nI 10) := h2
      rw [d2, d1, g2_iff (by omega) (by omega) (by omega)] at h2
      refine ⟨fun z => absurd z (by decide +kernel), fun _ => ?_⟩
      refine hX _ _ _ _ _ _ _ ?_
      exact ⟨Or.inr rfl, q1 ⟨h.1, h.2, h2.1, h2.2⟩⟩
    · have h2 : ¬ sIn (nI p - nI p / nI 10 * nI 10) (nI 2) (nI p / nI 10) := h2
      rw [d2, d1, g2_iff (by omega) (by omega) (by omega)] at h2
      exact ⟨fun _ => no (fun z => h2 z.2.2), fun z => absurd rfl z⟩
  · have h : ¬ sIn (nI p / nI 10) (nI 2) (nI 7) := h
    rw [d1, g2_iff (by omega) (by omega) (by omega)] at h
    exact ⟨fun _ => no (fun z => h ⟨z.1, z.2.1⟩), fun z => absurd rfl z⟩
theorem g_fitsPair {p r t : Nat} (hp : p < 100) (htr : t = 2 * r) (hr : r ≤ 20) (hb : ∀ k, k < t → σ 5 k = nI (B k) ∧ B k < 256) (q1 : fP B r p = true → Q (.inl (some (.int (nI 1)))) sh_10 σ) (q0 : ¬ fP B r p = true → Q (.inl (some (.int (nI 0)))) sh_10 σ) : mD (d + 3) 195 [.ref 0, .int (nI p), .int (nI t)] sh_10 σ Q := by
  refine ⟨rfl, fun X hX => ?_⟩
  have end0 : ¬ fP B r p = true → X 53 [none, none, none, some (.int (nI 0)), none] [] sh_10 σ 0 0 := by
    intro h
    refine hX _ _ _ _ _ _ _ ?_
    exact ⟨Or.inl rfl, q0 h⟩
  have bad : ¬ fP B r p = true → ∀ x, X 8 [some (.ref 0), some (.int (nI p)), some (.int (nI t)), some (.int (nI 0)), some (.int x)] [] sh_10 σ 0 0 := by
    intro h x
    refine hX _ _ _ _ _ _ _ ?_
    exact ⟨fun _ => end0 h, fun _ => ⟨fun _ => end0 h, fun z => absurd rfl z⟩⟩
  have loop : isP p = true → ∀ j i, r - i = j → i ≤ r → roB B p i = true → X 8 [some (.ref 0), some (.int (nI p)), some (.int (nI t)), some (.int (nI 1)), some (.int (nI (2 * i)))] [] sh_10 σ 0 0 := by
    intro hP j
    induction j with
    | zero =>
      intro i hj hi w
      have ei : i = r := by omega
      subst ei
      refine hX _ _ _ _ _ _ _ ?_
      refine b_ge rfl rfl (by omega) (by omega) (fun _ => ?_) (fun h => by omega)
      refine hX _ _ _ _ _ _ _ ?_
      exact ⟨Or.inr rfl, q1 (by unfold fP; rw [hP, w]; rfl)⟩
    | succ j ih =>
      intro i hj hi w
      have b1 := hb (2 * i) (by omega)
      have b2 := hb (2 * i + 1) (by omega)
      have ht := th_le (p := p) (g := B (2 * i))
      have x1 : σ 5 (nI (2 * i)).toNatClampNeg = nI (B (2 * i)) := by rw [nI_clamp (by omega)]; exact b1.1
      have i2 : nI (2 * i) + nI 1 = nI (2 * i + 1) := nI_add _ _
      have x2 : σ 5 (nI (2 * i) + nI 1).toNatClampNeg = nI (B (2 * i + 1)) := by rw [clN i2 (by omega)]; exact b2.1
      refine hX _ _ _ _ _ _ _ ?_
      refine b_ge rfl rfl (by omega) (by omega) (fun h => by omega) (fun _ => ?_)
      refine ⟨fun z => absurd z (by decide +kernel), fun _ => ?_⟩
      refine ⟨vp_in_nI (by omega) (by omega), ?_⟩
      refine g_through x1 hp (by omega) ?_
      refine ⟨vin i2 (by omega) (by omega), ?_⟩
      refine b_ne rfl x2 (by omega) (by omega) (fun h => ?_) (fun h => ?_)
      · refine hX _ _ _ _ _ _ _ ?_
        refine hX _ _ _ _ _ _ _ ?_
        refine bad (fun z => ?_) _
        unfold fP at z
        rw [Bool.and_eq_true, roB_iff] at z
        exact h (z.2 i (by omega))
      · refine hX _ _ _ _ _ _ _ ?_
        have h9 := ih (i + 1) (by omega) (by omega) (by rw [roB, w, decide_eq_true h]; rfl)
        rw [show 2 * (i + 1) = 2 * i + 2 by omega, ← nI_add (2 * i) 2] at h9
        exact h9
  refine hX _ _ _ _ _ _ _ ?_
  refine g_isPair hp (fun h => ?_) (fun h => ?_)
  · exact loop h _ 0 rfl (Nat.zero_le _) rfl
  · refine bad (fun z => h ?_) _
    unfold fP at z
    rw [Bool.and_eq_true] at z
    exact z.1
theorem g_siftRows {t : Nat} (h8 : σ 0 8 = nI t) (ht : t ≤ 400) (hb : ∀ k, k < t → σ 5 k = nI (B k) ∧ B k < 256) (q1 : gdR B t 2 → ∀ σ', MR σ (nI 0) σ' → Q (.inl (some (.int (nI t)))) sh_10 σ') (q0 : ¬ gdR B t 2 → ∀ σ', MR σ (nI 1) σ' → Q (.inl (some (.int (nI t)))) sh_10 σ') : mD (d + 3) 194 [.ref 0] sh_10 σ Q := by
  refine ⟨rfl, fun X hX => ?_⟩
  generalize hW0 : mput σ 0 8 (nI 0) = W0
  have k0 : ∀ c, c ≠ 0 → W0 c = σ c := fun c hc => by rw [← hW0]; exact mput_ne hc
  have bad75 : ¬ gdR B t 2 → X 75 [some (.ref 0), some (.int (nI t)), some (.int (nI 0)), none] [] sh_10 W0 0 0 := by
    intro h
    refine hX _ _ _ _ _ _ _ ?_
    refine ⟨fun _ => ?_, fun z => absurd rfl z⟩
    refine hX _ _ _ _ _ _ _ ?_
    refine hX _ _ _ _ _ _ _ ?_
    exact q0 h (mput W0 0 0 (nI 1)) (MR.lo (fun c _ => by rw [hW0]))
  have bad30 : ¬ gdR B t 2 → ∀ x, X 30 [some (.ref 0), some (.int (nI t)), some (.int (nI 0)), some (.int x)] [] sh_10 W0 0 0 := by
    intro h x
    refine hX _ _ _ _ _ _ _ ?_
    exact ⟨fun _ => bad75 h, fun _ => ⟨fun _ => bad75 h, fun z => absurd rfl z⟩⟩
  have good : gdR B t 2 → X 75 [some (.ref 0), some (.int (nI t)), some (.int (nI 1)), none] [] sh_10 W0 0 0 := by
    intro hg
    refine hX _ _ _ _ _ _ _ ?_
    refine ⟨fun z => absurd z (by decide +kernel), fun _ => ?_⟩
    refine hX _ _ _ _ _ _ _ ?_
    exact q1 hg (mput W0 0 0 (nI 0)) (MR.lo (fun c _ => by rw [hW0]))
  have loop : t % 2 = 0 → t ≤ 40 → ∀ r i, t / 2 - i = r → i ≤ t / 2 → (∀ j, j < i → (1 ≤ B (2 * j) ∧ B (2 * j) ≤ 6) ∧ B (2 * j + 1) ≤ 2) → X 30 [some (.ref 0), some (.int (nI t)), some (.int (nI 1)), some (.int (nI (2 * i)))] [] sh_10 W0 0 0 := by
    intro he h40 r
    induction r with
    | zero =>
      intro i hr hi w3
      refine hX _ _ _ _ _ _ _ ?_
      refine b_ge rfl rfl (by omega) (by omega) (fun _ => ?_) (fun h => by omega)
      exact good ⟨he, h40, fun j hj => w3 j (by omega)⟩
    | succ r ih =>
      intro i hr hi w3
      have x1 : W0 5 (nI (2 * i)).toNatClampNeg = nI (B (2 * i)) := by rw [nI_clamp (by omega), k0 5 (by omega)]; exact (hb (2 * i) (by omega)).1
      have i2 : nI (2 * i) + nI 1 = nI (2 * i + 1) := nI_add _ _
      have x2 : W0 5 (nI (2 * i) + nI 1).toNatClampNeg = nI (B (2 * i + 1)) := by rw [clN i2 (by omega), k0 5 (by omega)]; exact (hb (2 * i + 1) (by omega)).1
      have l1 := (hb (2 * i) (by omega)).2
      have l2 := (hb (2 * i + 1) (by omega)).2
      have no : ¬ ((1 ≤ B (2 * i) ∧ B (2 * i) ≤ 6) ∧ B (2 * i + 1) ≤ 2) → X 67 [some (.ref 0), some (.int (nI t)), none, some (.int (nI (2 * i)))] [] sh_10 W0 0 0 := by
        intro h
        refine hX _ _ _ _ _ _ _ ?_
        refine hX _ _ _ _ _ _ _ ?_
        exact bad30 (fun z => h (z.2.2 i (by omega))) _
      refine hX _ _ _ _ _ _ _ ?_
      refine b_ge rfl rfl (by omega) (by omega) (fun h => by omega) (fun _ => ?_)
      refine ⟨fun z => absurd z (by decide +kernel), fun _ => ?_⟩
      refine ⟨vp_in_nI (by omega) (by omega), ?_⟩
      refine g_isGrain (fun h => ?_) (fun h => ?_)
      · rw [x1, g2_iff (by omega) (by omega) (by omega)] at h
        refine ⟨fun z => absurd z (by decide +kernel), fun _ => ?_⟩
        refine ⟨vin i2 (by omega) (by omega), ?_⟩
        refine b_ge x2 (b := 3) rfl (by omega) (by omega) (fun h2 => no (by omega)) (fun h2 => ?_)
        refine hX _ _ _ _ _ _ _ ?_
        have h9 := ih (i + 1) (by omega) (by omega) (fun j hj => by
          by_cases e : j = i
          · rw [e]; exact ⟨h, by omega⟩
          · exact w3 j (by omega))
        rw [show 2 * (i + 1) = 2 * i + 2 by omega, ← nI_add (2 * i) 2] at h9
        exact h9
      · rw [x1, g2_iff (by omega) (by omega) (by omega)] at h
        exact ⟨fun _ => no (fun z => h z.1), fun z => absurd rfl z⟩
  have p27 : ∀ x, (x = nI 1 ∧ t % 2 = 0 ∧ t ≤ 40) ∨ (x = nI 0 ∧ ¬ (t % 2 = 0 ∧ t ≤ 40)) → X 27 [some (.ref 0), some (.int (nI t)), none, none] [.int x] sh_10 W0 0 0 := by
    rintro x (⟨rfl, h1, h2⟩ | ⟨rfl, h⟩)
    · refine hX _ _ _ _ _ _ _ ?_
      exact loop h1 h2 _ 0 rfl (Nat.zero_le _) (fun j hj => absurd hj (by omega))
    · refine hX _ _ _ _ _ _ _ ?_
      exact bad30 (fun z => h ⟨z.1, z.2.1⟩) _
  have em : σ 0 8 - σ 0 8 / nI 2 * nI 2 = nI (t % 2) := by rw [h8]; exact (t2 t (by omega)).2
  have p26 : ¬ (t % 2 = 0 ∧ t ≤ 40) → X 26 [some (.ref 0), some (.int (nI t)), none, none] [] sh_10 W0 0 0 := by
    intro h
    refine hX _ _ _ _ _ _ _ ?_
    exact p27 _ (Or.inr ⟨rfl, h⟩)
  rw [← h8] at p26 p27
  rw [← hW0] at p26 p27
  refine hX _ _ _ _ _ _ _ ?_
  refine ⟨by decide +kernel, ?_⟩
  refine b_ne em (b := 0) rfl (by omega) (by omega) (fun h => p26 (fun z => h z.1)) (fun h => ?_)
  refine b_gt h8 (b := 40) rfl (by omega) (by omega) (fun h2 => p26 (fun z => by have := z.2; omega)) (fun h2 => ?_)
  exact p27 _ (Or.inl ⟨rfl, h, h2⟩)
theorem MR.b {W : mSg} {th : Int32} {t : Nat} (h : MR σ th W) (hb : ∀ k, k < t → σ 5 k = nI (B k) ∧ B k < 256) : ∀ k, k < t → W 5 k = nI (B k) ∧ B k < 256 := by
  rw [h.2.2.2.1]
  exact hb
theorem g_meshes {t : Nat} {u : Int32} {first : Bool} (hu : u = (if first = true then nI 1 else nI 0)) (h8 : σ 0 8 = nI t) (ht : t ≤ 400) (hb : ∀ k, k < t → σ 5 k = nI (B k) ∧ B k < 256) (q1 : gdR B t 2 → ∀ σ', MR σ (nI 0) σ' → Q (.inl (some (.int (sMe (fP B (t / 2)) first)))) sh_10 σ') (q0 : ¬ gdR B t 2 → ∀ σ', MR σ (nI 1) σ' → Q (.inl (some (.int (nI 0)))) sh_10 σ') : mD (d + 4) 196 [.ref 0, .int u] sh_10 σ Q := by
  refine ⟨rfl, fun X hX => ?_⟩
  refine hX _ _ _ _ _ _ _ ?_
  refine g_siftRows (B := B) h8 ht hb (fun hg W hM => ?_) (fun hg W hM => ?_)
  · have e := hM.2.2.2.2.1
    have hq := q1 hg W hM
    have hbW := hM.b hb
    have h20 := hg.g.2
    have he := hg.1
    generalize hr : t / 2 = r at hq h20
    have htr : t = 2 * r := by omega
    have fin : X 56 [none, some (.int u), none, some (.int (nI (cA (fP B r) 58 22))), some (.int (oM (-(nI 1)) (fF (fP B r) 58 22))), none] [] sh_10 W 0 0 := by
      unfold sMe at hq
      refine hX _ _ _ _ _ _ _ ?_
      cases first with
      | true =>
        rw [if_pos rfl] at hu hq
        subst hu
        refine ⟨fun z => absurd z (by decide +kernel), fun _ => ?_⟩
        refine hX _ _ _ _ _ _ _ ?_
        exact hq
      | false =>
        rw [if_neg (by decide)] at hu hq
        subst hu
        refine ⟨fun _ => ?_, fun z => absurd rfl z⟩
        refine hX _ _ _ _ _ _ _ ?_
        refine hX _ _ _ _ _ _ _ ?_
        exact hq
    have loop : ∀ j p, p = 21 + j → p ≤ 79 → X 23 [some (.ref 0), some (.int u), some (.int (nI t)), some (.int (nI (cA (fP B r) (79 - p) (p + 1)))), some (.int (oM (-(nI 1)) (fF (fP B r) (79 - p) (p + 1)))), some (.int (nI p))] [] sh_10 W 0 0 := by
      intro j
      induction j with
      | zero =>
        intro p hj hp
        have ep : p = 21 := by omega
        subst ep
        refine hX _ _ _ _ _ _ _ ?_
        refine b_le rfl (b := 21) rfl (by omega) (by omega) (fun _ => ?_) (fun h => by omega)
        exact fin
      | succ j ih =>
        intro p hj hp
        have h9 := ih (p - 1) (by omega) (by omega)
        have dc : cA (fP B r) (79 - (p - 1)) (p - 1 + 1) = (if fP B r p = true then 1 else 0) + cA (fP B r) (79 - p) (p + 1) := by
          rw [show 79 - (p - 1) = (79 - p) + 1 by omega, show p - 1 + 1 = p by omega]
          rfl
        have df : fF (fP B r) (79 - (p - 1)) (p - 1 + 1) = if fP B r p = true then some p else fF (fP B r) (79 - p) (p + 1) := by
          rw [show 79 - (p - 1) = (79 - p) + 1 by omega, show p - 1 + 1 = p by omega]
          rfl
        rw [dc, df, ← nI_sub (show 1 ≤ p by omega)] at h9
        refine hX _ _ _ _ _ _ _ ?_
        refine b_le rfl (b := 21) rfl (by omega) (by omega) (fun h => by omega) (fun _ => ?_)
        refine g_fitsPair (B := B) (r := r) (by omega) htr h20 hbW (fun h => ?_) (fun h => ?_)
        · refine ⟨fun _ => ?_, fun z => absurd z (by decide +kernel)⟩
          refine hX _ _ _ _ _ _ _ ?_
          refine hX _ _ _ _ _ _ _ ?_
          rw [if_pos h, if_pos h, Nat.add_comm, ← nI_add] at h9
          exact h9
        · refine ⟨fun z => absurd rfl z, fun _ => ?_⟩
          refine hX _ _ _ _ _ _ _ ?_
          rw [if_neg h, if_neg h, Nat.zero_add] at h9
          exact h9
    refine ⟨fun _ => ?_, fun z => absurd (show W 0 0 ≤ 0 by rw [e]; decide +kernel) z⟩
    refine hX _ _ _ _ _ _ _ ?_
    exact loop 58 79 rfl (by omega)
  · have e := hM.2.2.2.2.1
    refine ⟨fun z => absurd (show W 0 0 ≤ 0 from z) (by rw [e]; decide +kernel), fun _ => ?_⟩
    exact q0 hg W hM
def sF (F : Nat → Nat) : Nat → Nat
  | 0 => 0
  | k + 1 => sF F k + F k
theorem g_sift {t : Nat} (h8 : σ 0 8 = nI t) (ht : t ≤ 400) (hb : ∀ k, k < t → σ 5 k = nI (B k) ∧ B k < 256) (q1 : gdR B t 2 → ∀ σ', MR σ (nI 0) σ' → Q (.inl (some (.int (sSi (fP B (t / 2)))))) sh_10 σ') (q0 : ¬ gdR B t 2 → ∀ σ', MR σ (nI 1) σ' → Q (.inl (some (.int (nI 0)))) sh_10 σ') : mD (d + 4) 197 [.ref 0] sh_10 σ Q := by
  refine ⟨rfl, fun X hX => ?_⟩
  refine hX _ _ _ _ _ _ _ ?_
  refine g_siftRows (B := B) h8 ht hb (fun hg W hM => ?_) (fun hg W hM => ?_)
  · have e := hM.2.2.2.2.1
    have hq := q1 hg W hM
    have hbW := hM.b hb
    have h20 := hg.g.2
    have he := hg.1
    generalize hr : t / 2 = r at hq h20
    have htr : t = 2 * r := by omega
    generalize hP : fP B r = P at hq
    have hPp : ∀ p, fP B r p = P p := fun p => by rw [hP]
    unfold sSi at hq
    have inn : ∀ g v (x2 x3 x5 x6 : Int32), 1 ≤ g → g ≤ 6 → v < 3 → (X 97 [some (.ref 0), some (.int (nI t)), some (.int x2), some (.int x3), some (.int (nI g)), some (.int x5), some (.int x6), some (.int (nI v)), some (.int (nI (cA (pV P g v) 58 22))), none] [] sh_10 W 0 0) → ∀ j p q, 80 - p = j → 22 ≤ p → p ≤ 80 → q + cA (pV P g v) (80 - p) p = cA (pV P g v) 58 22 → X 52 [some (.ref 0), some (.int (nI t)), some (.int x2), some (.int x3), some (.int (nI g)), some (.int x5), some (.int x6), some (.int (nI v)), some (.int (nI q)), some (.int (nI p))] [] sh_10 W 0 0 := by
      intro g v x2 x3 x5 x6 g1 g6 hv hk j
      induction j with
      | zero =>
        intro p q hj p1 p2 w
        have ep : p = 80 := by omega
        subst ep
        have w : q = cA (pV P g v) 58 22 := w
        rw [w]
        refine hX _ _ _ _ _ _ _ ?_
        refine b_ge rfl (b := 80) rfl (by omega) (by omega) (fun _ => ?_) (fun h => by omega)
        exact hk
      | succ j ih =>
        intro p q hj p1 p2 w
        have dc : cA (pV P g v) (80 - p) p = (if pV P g v p = true then 1 else 0) + cA (pV P g v) (80 - (p + 1)) (p + 1) := by
          rw [show 80 - p = (80 - (p + 1)) + 1 by omega]
          rfl
        have htl := th_le (p := p) (g := g)
        have p88 : ∀ e, cA (pV P g v) (80 - p) p = e + cA (pV P g v) (80 - (p + 1)) (p + 1) → X 88 [some (.ref 0), some (.int (nI t)), some (.int x2), some (.int x3), some (.int (nI g)), some (.int x5), some (.int x6), some (.int (nI v)), none, some (.int (nI p))] [.int (nI e), .int (nI q)] sh_10 W 0 0 := by
          intro e he
          refine hX _ _ _ _ _ _ _ ?_
          have h9 := ih (p + 1) (q + e) (by omega) (by omega) (by omega) (by omega)
          rw [← nI_add q e, ← nI_1 p] at h9
          exact h9
        refine hX _ _ _ _ _ _ _ ?_
        refine b_ge rfl (b := 80) rfl (by omega) (by omega) (fun h => by omega) (fun _ => ?_)
        refine g_fitsPair (B := B) (r := r) (by omega) htr h20 hbW (fun h => ?_) (fun h => ?_)
        · rw [hPp] at h
          unfold pV at dc
          rw [h, Bool.true_and] at dc
          refine ⟨fun z => absurd z (by decide +kernel), fun _ => ?_⟩
          refine g_through rfl (by omega) (by omega) ?_
          refine b_ne rfl rfl (by omega) (by omega) (fun h2 => ?_) (fun h2 => ?_)
          · rw [if_neg (fun z => h2 (of_decide_eq_true z))] at dc
            refine hX _ _ _ _ _ _ _ ?_
            exact p88 0 dc
          · rw [if_pos (decide_eq_true h2)] at dc
            exact p88 1 dc
        · rw [hPp] at h
          have hno : ¬ pV P g v p = true := by
            unfold pV
            rw [Bool.and_eq_true]
            exact fun z => h z.1
          rw [if_neg hno] at dc
          refine ⟨fun _ => ?_, fun z => absurd rfl z⟩
          refine hX _ _ _ _ _ _ _ ?_
          exact p88 0 dc
    have mid : ∀ g (x2 x3 : Int32), 1 ≤ g → g ≤ 6 → (X 119 [some (.ref 0), some (.int (nI t)), some (.int x2), some (.int x3), some (.int (nI g)), some (.int (nI (cA P 58 22))), some (.int (nI (gS P g))), none, none, none] [] sh_10 W 0 0) → ∀ j v, 3 - v = j → v ≤ 3 → X 39 [some (.ref 0), some (.int (nI t)), some (.int x2), some (.int x3), some (.int (nI g)), some (.int (nI (sF (fun v => cA (pV P g v) 58 22) v))), some (.int (nI (gM (fun v => cA (pV P g v) 58 22) v))), some (.int (nI v)), none, none] [] sh_10 W 0 0 := by
      intro g x2 x3 g1 g6 hk j
      induction j with
      | zero =>
        intro v hj hv
        have ev : v = 3 := by omega
        subst ev
        refine hX _ _ _ _ _ _ _ ?_
        refine b_ge rfl (b := 3) rfl (by omega) (by omega) (fun _ => ?_) (fun h => by omega)
        have e3 : sF (fun v => cA (pV P g v) 58 22) 3 = cA P 58 22 := by
          rw [cA_3 (P := P) (g := g) 58 22]
          show 0 + _ + _ + _ = _
          rw [Nat.zero_add]
        rw [e3, ← gS_3]
        exact hk
      | succ j ih =>
        intro v hj hv
        have h9 := ih (v + 1) (by omega) (by omega)
        have hcl := cA_le (P := pV P g v) 58 22
        have hgl := gM_le (F := fun v => cA (pV P g v) 58 22) (b := 58) v (fun i _ => cA_le 58 22)
        refine hX _ _ _ _ _ _ _ ?_
        refine b_ge rfl (b := 3) rfl (by omega) (by omega) (fun h => by omega) (fun _ => ?_)
        refine inn g v x2 x3 _ _ g1 g6 (by omega) ?_ _ 22 0 rfl (by omega) (by omega) (Nat.zero_add _)
        refine hX _ _ _ _ _ _ _ ?_
        refine g_greater ?_
        rw [gM, ← sMax_nI (by omega) (by omega), sF, ← nI_add, ← nI_1 v] at h9
        exact h9
    have loop : ∀ j k (o : Option Nat) l, 6 - k = j → k ≤ 6 → (cA P 58 22 < 2 → o = none) → (¬ cA P 58 22 < 2 → (o, l) = aF (gS P) 2000000000 k) → l < 2 ^ 31 → X 23 [some (.ref 0), some (.int (nI t)), some (.int (oM (-(nI 1)) o)), some (.int (nI l)), some (.int (nI (k + 1))), none, none, none, none, none] [] sh_10 W 0 0 := by
      intro j
      induction j with
      | zero =>
        intro k o l hj hk w1 w2 w3
        have ek : k = 6 := by omega
        subst ek
        refine hX _ _ _ _ _ _ _ ?_
        refine b_gt rfl (b := 6) rfl (by omega) (by omega) (fun _ => ?_) (fun h => by omega)
        refine hX _ _ _ _ _ _ _ ?_
        by_cases hc : cA P 58 22 < 2
        · rw [if_pos hc] at hq
          rw [w1 hc]
          exact hq
        · rw [if_neg hc, ← w2 hc] at hq
          exact hq
      | succ j ih =>
        intro k o l hj hk w1 w2 w3
        have hgl := gS_le (P := P) (g := k + 1)
        have hcl := cA_le (P := P) 58 22
        have p140 : ∀ o l, (cA P 58 22 < 2 → o = none) → (¬ cA P 58 22 < 2 → (o, l) = aF (gS P) 2000000000 (k + 1)) → l < 2 ^ 31 → X 140 [some (.ref 0), some (.int (nI t)), some (.int (oM (-(nI 1)) o)), some (.int (nI l)), some (.int (nI (k + 1))), none, none, none, none, none] [] sh_10 W 0 0 := by
          intro o l w1 w2 w3
          refine hX _ _ _ _ _ _ _ ?_
          have h9 := ih (k + 1) o l (by omega) (by omega) w1 w2 w3
          rw [← nI_1 (k + 1)] at h9
          exact h9
        have hd : aF (gS P) 2000000000 (k + 1) = if gS P (k + 1) < (aF (gS P) 2000000000 k).2 then (some (k + 1), gS P (k + 1)) else aF (gS P) 2000000000 k := rfl
        refine hX _ _ _ _ _ _ _ ?_
        refine b_gt rfl (b := 6) rfl (by omega) (by omega) (fun h => by omega) (fun _ => ?_)
        refine mid (k + 1) _ _ (by omega) (by omega) ?_ _ 0 rfl (by omega)
        refine hX _ _ _ _ _ _ _ ?_
        refine b_lt rfl (b := 2) rfl (by omega) (by omega) (fun hc => ?_) (fun hc => ?_)
        · exact p140 o l w1 (fun z => absurd hc z) w3
        · have w2 := w2 (by omega)
          rw [← w2] at hd
          refine b_lt rfl rfl (by omega) w3 (fun h => ?_) (fun h => ?_)
          · refine hX _ _ _ _ _ _ _ ?_
            rw [if_pos h] at hd
            exact p140 (some (k + 1)) (gS P (k + 1)) (fun z => absurd z (by omega)) (fun _ => hd.symm) (by omega)
          · rw [if_neg (Nat.not_lt.mpr h)] at hd
            exact p140 o l w1 (fun _ => hd.symm) w3
    refine ⟨fun _ => ?_, fun z => absurd (show W 0 0 ≤ 0 by rw [e]; decide +kernel) z⟩
    refine hX _ _ _ _ _ _ _ ?_
    exact loop _ 0 none 2000000000 rfl (Nat.zero_le _) (fun _ => rfl) (fun _ => rfl) (by omega)
  · have e := hM.2.2.2.2.1
    refine ⟨fun z => absurd (show W 0 0 ≤ 0 from z) (by rw [e]; decide +kernel), fun _ => ?_⟩
    exact q0 hg W hM
end MSI
