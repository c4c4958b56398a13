/-! THE CLASS: two sieves by what went through -/
def th (p g : Nat) : Nat := if p / 10 ≤ g then 0 else if p % 10 ≤ g then 1 else 2
def isP (p : Nat) : Bool := decide (2 ≤ p / 10 ∧ p / 10 ≤ 7 ∧ 2 ≤ p % 10 ∧ p % 10 ≤ p / 10)
def roB (B : Nat → Nat) (p : Nat) : Nat → Bool
  | 0 => true
  | i + 1 => roB B p i && decide (th p (B (2 * i)) = B (2 * i + 1))
def fP (B : Nat → Nat) (r p : Nat) : Bool := isP p && roB B p r
def cA (P : Nat → Bool) : Nat → Nat → Nat
  | 0, _ => 0
  | k + 1, a => (if P a = true then 1 else 0) + cA P k (a + 1)
def fF (P : Nat → Bool) : Nat → Nat → Option Nat
  | 0, _ => none
  | k + 1, a => if P a = true then some a else fF P k (a + 1)
def pV (P : Nat → Bool) (g v p : Nat) : Bool := P p && decide (th p g = v)
def gS (P : Nat → Bool) (g : Nat) : Nat := gM (fun v => cA (pV P g v) 58 22) 10
def sMe (P : Nat → Bool) (first : Bool) : Int32 := if first = true then oM (-(nI 1)) (fF P 58 22) else nI (cA P 58 22)
def sSi (P : Nat → Bool) : Int32 := if cA P 58 22 < 2 then -(nI 1) else oM (-(nI 1)) (aF (gS P) 2000000000 6).1
theorem roB_iff {B : Nat → Nat} {p : Nat} : ∀ r, roB B p r = true ↔ ∀ i, i < r → th p (B (2 * i)) = B (2 * i + 1)
  | 0 => ⟨fun _ i hi => absurd hi (by omega), fun _ => rfl⟩
  | r + 1 => by
    rw [roB, Bool.and_eq_true, roB_iff r, decide_eq_true_iff]
    constructor
    · rintro ⟨h1, h2⟩ i hi
      by_cases e : i = r
      · rw [e]; exact h2
      · exact h1 i (by omega)
    · exact fun h => ⟨fun i hi => h i (by omega), h r (by omega)⟩
theorem th_le {p g : Nat} : th p g ≤ 2 := by
  unfold th
  split
  · omega
  · split <;> omega
theorem cA_le {P : Nat → Bool} : ∀ k a, cA P k a ≤ k
  | 0, _ => Nat.le_refl _
  | k + 1, a => by
    have := cA_le (P := P) k (a + 1)
    rw [cA]
    split <;> omega
theorem cA_0 {P : Nat → Bool} (h : ∀ p, P p = false) : ∀ k a, cA P k a = 0
  | 0, _ => rfl
  | k + 1, a => by rw [cA, h a, if_neg (by decide), cA_0 h k (a + 1)]
theorem cA_skip {P : Nat → Bool} : ∀ j k a, (∀ p, a ≤ p → p < a + j → P p = false) → cA P k a = cA P (k - j) (a + j)
  | 0, k, a, _ => rfl
  | j + 1, 0, a, _ => by rw [Nat.zero_sub]; rfl
  | j + 1, k + 1, a, h => by
    rw [cA, h a (by omega) (by omega), if_neg (by decide), Nat.zero_add, cA_skip j k (a + 1) (fun p h1 h2 => h p (by omega) (by omega)), show k + 1 - (j + 1) = k - j by omega, show a + (j + 1) = a + 1 + j by omega]
theorem fF_skip {P : Nat → Bool} : ∀ j k a, (∀ p, a ≤ p → p < a + j → P p = false) → fF P k a = fF P (k - j) (a + j)
  | 0, k, a, _ => rfl
  | j + 1, 0, a, _ => by rw [Nat.zero_sub]; rfl
  | j + 1, k + 1, a, h => by
    rw [fF, h a (by omega) (by omega), if_neg (by decide), fF_skip j k (a + 1) (fun p h1 h2 => h p (by omega) (by omega)), show k + 1 - (j + 1) = k - j by omega, show a + (j + 1) = a + 1 + j by omega]
theorem gM_z {F : Nat → Nat} {k : Nat} : ∀ j, (∀ i, k ≤ i → i < k + j → F i = 0) → gM F (k + j) = gM F k
  | 0, _ => rfl
  | j + 1, h => by
    have e : gM F (k + (j + 1)) = max (gM F (k + j)) (F (k + j)) := rfl
    rw [e, h (k + j) (by omega) (by omega), gM_z j (fun i h1 h2 => h i h1 (by omega)), Nat.max_zero]
theorem gS_le {P : Nat → Bool} {g : Nat} : gS P g ≤ 58 := gM_le 10 (fun v _ => cA_le 58 22)
theorem cA_mono {P P' : Nat → Bool} (h : ∀ p, P p = true → P' p = true) : ∀ k a, cA P k a ≤ cA P' k a
  | 0, _ => Nat.le_refl _
  | k + 1, a => by
    have := cA_mono h k (a + 1)
    show (if P a = true then 1 else 0) + cA P k (a + 1) ≤ (if P' a = true then 1 else 0) + cA P' k (a + 1)
    by_cases e : P a = true
    · rw [if_pos e, if_pos (h a e)]; omega
    · rw [if_neg e]; omega
theorem isP_21 : cA isP 58 22 = 21 := by decide +kernel
theorem gS_21 {B : Nat → Nat} {r g : Nat} : gS (fP B r) g ≤ 21 := gM_le 10 (fun v _ => Nat.le_trans (cA_mono (fun p h => by
  unfold pV fP at h
  rw [Bool.and_eq_true, Bool.and_eq_true] at h
  exact h.1.1) 58 22) (Nat.le_of_eq isP_21))
theorem gS_3 {P : Nat → Bool} {g : Nat} : gS P g = gM (fun v => cA (pV P g v) 58 22) 3 := by
  unfold gS
  refine gM_z (k := 3) 7 (fun i h1 _ => cA_0 (fun p => ?_) 58 22)
  unfold pV
  have := th_le (p := p) (g := g)
  rw [decide_eq_false (by omega), Bool.and_false]
theorem np : ∀ f, f < 8 → ∀ p, p < 100 → 10 * f + f + 1 ≤ p → p < 10 * f + f + 1 + (11 - f) → isP p = false := by decide +kernel
theorem yp : ∀ f, f < 8 → ∀ o, o < 8 → 2 ≤ o → o ≤ f → isP (10 * f + o) = true := by decide +kernel
theorem fo {f o : Nat} (ho : o < 10) : (10 * f + o) / 10 = f ∧ (10 * f + o) % 10 = o := by omega
section CSI
variable {d : Nat} {σ : mSg} {m : Nat → Int32} {Q : mPst} {B : Nat → Nat} {sh : List mSh}
theorem c_passes {f o g : Nat} {x : Int32} (hx : x = nI g) (hf : f < 10) (ho : o < 10) (hg : g < 1000) (hq : Q (.inl (some (.int (nI (th (10 * f + o) g))))) sh σ) : mD (d + 1) 250 [.int (nI f), .int (nI o), .int x] sh σ Q := by
  unfold th at hq
  rw [(fo ho).1, (fo ho).2] at hq
  refine ⟨rfl, fun X hX => ?_⟩
  refine hX _ _ _ _ _ _ _ ?_
  refine b_lt hx rfl (by omega) (by omega) (fun h => ?_) (fun h => ?_)
  · rw [if_neg (by omega)] at hq
    refine hX _ _ _ _ _ _ _ ?_
    refine b_ge hx rfl (by omega) (by omega) (fun h2 => ?_) (fun h2 => ?_)
    · rw [if_pos h2] at hq
      refine hX _ _ _ _ _ _ _ ?_
      refine hX _ _ _ _ _ _ _ ?_
      exact hq
    · rw [if_neg (by omega)] at hq
      refine hX _ _ _ _ _ _ _ ?_
      exact hq
  · rw [if_pos h] at hq
    exact hq
theorem c_isPairFit {f o r : Nat} {σ : mSg} (hf : f < 10) (ho : o < 10) (hr : r ≤ 20) (hG : GR σ B r) (hg : ∀ i, i < r → 1 ≤ B (2 * i) ∧ B (2 * i) ≤ 6) (h2 : ∀ i, i < r → B (2 * i + 1) ≤ 2) (q1 : roB B (10 * f + o) r = true → Q (.inl (some (.int (nI 1)))) sh_1 σ) (q0 : ¬ roB B (10 * f + o) r = true → Q (.inl (some (.int (nI 0)))) sh_1 σ) : mD (d + 2) 249 [.ref 0, .int (nI f), .int (nI o)] sh_1 σ Q := by
  rw [roB_iff] at q1 q0
  refine ⟨rfl, fun X hX => ?_⟩
  have loop : ∀ j i, r - i = j → i ≤ r → (∀ k, k < i → th (10 * f + o) (B (2 * k)) = B (2 * k + 1)) → X 2 [some (.ref 0), some (.int (nI f)), some (.int (nI o)), some (.int (nI i))] [] sh_1 σ 0 0 := by
    intro j
    induction j with
    | zero =>
      intro i hj hi w
      have ei : i = r := by omega
      subst ei
      refine hX _ _ _ _ _ _ _ ?_
      refine b_ge rfl hG.1 (by omega) (by omega) (fun _ => ?_) (fun h => by omega)
      refine hX _ _ _ _ _ _ _ ?_
      exact ⟨Or.inr rfl, q1 w⟩
    | succ j ih =>
      intro i hj hi w
      have hir : i < r := by omega
      have hgi := hg i hir
      have h2i := h2 i hir
      have ht := th_le (p := 10 * f + o) (g := B (2 * i))
      have e1 : σ 1 (nI i).toNatClampNeg = nI (B (2 * i)) := by rw [nI_clamp (by omega)]; exact (hG.2 i hir).1
      have e2 : σ 2 (nI i).toNatClampNeg = nI (B (2 * i + 1)) := by rw [nI_clamp (by omega)]; exact (hG.2 i hir).2
      refine hX _ _ _ _ _ _ _ ?_
      refine b_ge rfl hG.1 (by omega) (by omega) (fun h => by omega) (fun _ => ?_)
      refine ⟨vp_in_nI (by omega) (by omega), ?_⟩
      refine c_passes e1 hf ho (by omega) ?_
      refine ⟨vp_in_nI (by omega) (by omega), ?_⟩
      refine b_eq rfl e2 (by omega) (by omega) (fun h => ?_) (fun h => ?_)
      · refine hX _ _ _ _ _ _ _ ?_
        have h9 := ih (i + 1) (by omega) (by omega) (fun k hk => by
          by_cases e : k = i
          · rw [e]; exact h
          · exact w k (by omega))
        rw [← nI_1 i] at h9
        exact h9
      · exact ⟨Or.inl rfl, q0 (fun z => h (z i hir))⟩
  refine hX _ _ _ _ _ _ _ ?_
  exact loop _ 0 rfl (Nat.zero_le _) (fun k hk => absurd hk (by omega))
/-- behind the last of one mesh the next -/
theorem fP_np {r f : Nat} (hf : f < 8) : ∀ p, 10 * f + (f + 1) ≤ p → p < 10 * f + (f + 1) + (11 - f) → fP B r p = false := by
  intro p h1 h2
  unfold fP
  rw [np f hf p (by omega) (by omega) (by omega), Bool.false_and]
theorem fP_yp {r f o : Nat} (hf : f < 8) (h1 : 2 ≤ o) (h2 : o ≤ f) : fP B r (10 * f + o) = roB B (10 * f + o) r := by
  unfold fP
  rw [yp f hf o (by omega) h1 h2, Bool.true_and]
theorem c_pairsThatFit {r : Nat} {σ : mSg} (hr : r ≤ 20) (hG : GR σ B r) (hg : ∀ i, i < r → 1 ≤ B (2 * i) ∧ B (2 * i) ≤ 6) (h2 : ∀ i, i < r → B (2 * i + 1) ≤ 2) (hq : Q (.inl (some (.int (nI (cA (fP B r) 58 22))))) sh_1 σ) : mD (d + 3) 245 [.ref 0] sh_1 σ Q := by
  refine ⟨rfl, fun X hX => ?_⟩
  have inn : ∀ f, 2 ≤ f → f ≤ 7 → (∀ v, v + cA (fP B r) (80 - (10 * f + (f + 1))) (10 * f + (f + 1)) = cA (fP B r) 58 22 → X 40 [some (.ref 0), some (.int (nI v)), some (.int (nI f)), none] [] sh_1 σ 0 0) → ∀ j o v, f + 1 - o = j → 2 ≤ o → o ≤ f + 1 → v + cA (fP B r) (80 - (10 * f + o)) (10 * f + o) = cA (fP B r) 58 22 → X 12 [some (.ref 0), some (.int (nI v)), some (.int (nI f)), some (.int (nI o))] [] sh_1 σ 0 0 := by
    intro f f2 f7 hk j
    induction j with
    | zero =>
      intro o v hj o2 of w
      have eo : o = f + 1 := by omega
      subst eo
      refine hX _ _ _ _ _ _ _ ?_
      refine b_gt rfl rfl (by omega) (by omega) (fun _ => ?_) (fun h => by omega)
      exact hk v w
    | succ j ih =>
      intro o v hj o2 of w
      have hy := fP_yp (B := B) (r := r) (f := f) (o := o) (by omega) o2 (by omega)
      have hd : cA (fP B r) (80 - (10 * f + o)) (10 * f + o) = (if fP B r (10 * f + o) = true then 1 else 0) + cA (fP B r) (80 - (10 * f + (o + 1))) (10 * f + (o + 1)) := by
        rw [show 80 - (10 * f + o) = (80 - (10 * f + (o + 1))) + 1 by omega]
        rfl
      rw [hy] at hd
      have p32 : ∀ e, cA (fP B r) (80 - (10 * f + o)) (10 * f + o) = e + cA (fP B r) (80 - (10 * f + (o + 1))) (10 * f + (o + 1)) → X 32 [some (.ref 0), none, some (.int (nI f)), some (.int (nI o))] [.int (nI e), .int (nI v)] sh_1 σ 0 0 := by
        intro e he
        refine hX _ _ _ _ _ _ _ ?_
        have h9 := ih (o + 1) (v + e) (by omega) (by omega) (by omega) (by omega)
        rw [← nI_add v e, ← nI_1 o] at h9
        exact h9
      refine hX _ _ _ _ _ _ _ ?_
      refine b_gt rfl rfl (by omega) (by omega) (fun h => by omega) (fun _ => ?_)
      refine c_isPairFit (B := B) (r := r) (by omega) (by omega) hr hG hg h2 (fun h => ?_) (fun h => ?_)
      · rw [if_pos h] at hd
        refine ⟨fun z => absurd z (by decide +kernel), fun _ => ?_⟩
        exact p32 1 hd
      · rw [if_neg h] at hd
        refine ⟨fun _ => ?_, fun z => absurd rfl z⟩
        refine hX _ _ _ _ _ _ _ ?_
        exact p32 0 hd
  have out : ∀ j f v, 8 - f = j → 2 ≤ f → f ≤ 8 → v + cA (fP B r) (80 - (10 * f + 2)) (10 * f + 2) = cA (fP B r) 58 22 → X 4 [some (.ref 0), some (.int (nI v)), some (.int (nI f)), none] [] sh_1 σ 0 0 := by
    intro j
    induction j with
    | zero =>
      intro f v hj f2 f8 w
      have ef : f = 8 := by omega
      subst ef
      refine hX _ _ _ _ _ _ _ ?_
      refine b_gt rfl (b := 7) rfl (by omega) (by omega) (fun _ => ?_) (fun h => by omega)
      refine hX _ _ _ _ _ _ _ ?_
      have w : v = cA (fP B r) 58 22 := w
      rw [w]
      exact hq
    | succ j ih =>
      intro f v hj f2 f8 w
      refine hX _ _ _ _ _ _ _ ?_
      refine b_gt rfl (b := 7) rfl (by omega) (by omega) (fun h => by omega) (fun _ => ?_)
      refine inn f f2 (by omega) (fun v w => ?_) _ 2 v rfl (by omega) (by omega) w
      refine hX _ _ _ _ _ _ _ ?_
      rw [cA_skip (11 - f) _ _ (fP_np (by omega)), show 80 - (10 * f + (f + 1)) - (11 - f) = 80 - (10 * (f + 1) + 2) by omega, show 10 * f + (f + 1) + (11 - f) = 10 * (f + 1) + 2 by omega] at w
      have h9 := ih (f + 1) v (by omega) (by omega) (by omega) w
      rw [← nI_1 f] at h9
      exact h9
  refine hX _ _ _ _ _ _ _ ?_
  exact out _ 2 0 rfl (by omega) (by omega) (Nat.zero_add _)
theorem c_firstPair {r : Nat} {σ : mSg} (hr : r ≤ 20) (hG : GR σ B r) (hg : ∀ i, i < r → 1 ≤ B (2 * i) ∧ B (2 * i) ≤ 6) (h2 : ∀ i, i < r → B (2 * i + 1) ≤ 2) (hq : Q (.inl (some (.int (oM (-(nI 1)) (fF (fP B r) 58 22))))) sh_1 σ) : mD (d + 3) 246 [.ref 0] sh_1 σ Q := by
  refine ⟨rfl, fun X hX => ?_⟩
  have inn : ∀ f, 2 ≤ f → f ≤ 7 → (fF (fP B r) (80 - (10 * f + (f + 1))) (10 * f + (f + 1)) = fF (fP B r) 58 22 → X 37 [some (.ref 0), some (.int (nI f)), none] [] sh_1 σ 0 0) → ∀ j o, f + 1 - o = j → 2 ≤ o → o ≤ f + 1 → fF (fP B r) (80 - (10 * f + o)) (10 * f + o) = fF (fP B r) 58 22 → X 10 [some (.ref 0), some (.int (nI f)), some (.int (nI o))] [] sh_1 σ 0 0 := by
    intro f f2 f7 hk j
    induction j with
    | zero =>
      intro o hj o2 of w
      have eo : o = f + 1 := by omega
      subst eo
      refine hX _ _ _ _ _ _ _ ?_
      refine b_gt rfl rfl (by omega) (by omega) (fun _ => ?_) (fun h => by omega)
      exact hk w
    | succ j ih =>
      intro o hj o2 of w
      have hy := fP_yp (B := B) (r := r) (f := f) (o := o) (by omega) o2 (by omega)
      have hd : fF (fP B r) (80 - (10 * f + o)) (10 * f + o) = if fP B r (10 * f + o) = true then some (10 * f + o) else fF (fP B r) (80 - (10 * f + (o + 1))) (10 * f + (o + 1)) := by
        rw [show 80 - (10 * f + o) = (80 - (10 * f + (o + 1))) + 1 by omega]
        rfl
      rw [hy] at hd
      refine hX _ _ _ _ _ _ _ ?_
      refine b_gt rfl rfl (by omega) (by omega) (fun h => by omega) (fun _ => ?_)
      refine c_isPairFit (B := B) (r := r) (by omega) (by omega) hr hG hg h2 (fun h => ?_) (fun h => ?_)
      · rw [if_pos h] at hd
        refine ⟨fun z => absurd z (by decide +kernel), fun _ => ?_⟩
        rw [← w, hd] at hq
        refine qi ?_ hq
        show nI (10 * f + o) = nI 10 * nI f + nI o
        rw [nI_mul, nI_add]
      · rw [if_neg h] at hd
        refine ⟨fun _ => ?_, fun z => absurd rfl z⟩
        refine hX _ _ _ _ _ _ _ ?_
        have h9 := ih (o + 1) (by omega) (by omega) (by omega) (hd.symm.trans w)
        rw [← nI_1 o] at h9
        exact h9
  have out : ∀ j f, 8 - f = j → 2 ≤ f → f ≤ 8 → fF (fP B r) (80 - (10 * f + 2)) (10 * f + 2) = fF (fP B r) 58 22 → X 2 [some (.ref 0), some (.int (nI f)), none] [] sh_1 σ 0 0 := by
    intro j
    induction j with
    | zero =>
      intro f hj f2 f8 w
      have ef : f = 8 := by omega
      subst ef
      refine hX _ _ _ _ _ _ _ ?_
      refine b_gt rfl (b := 7) rfl (by omega) (by omega) (fun _ => ?_) (fun h => by omega)
      refine hX _ _ _ _ _ _ _ ?_
      have w : none = fF (fP B r) 58 22 := w
      rw [← w] at hq
      exact hq
    | succ j ih =>
      intro f hj f2 f8 w
      refine hX _ _ _ _ _ _ _ ?_
      refine b_gt rfl (b := 7) rfl (by omega) (by omega) (fun h => by omega) (fun _ => ?_)
      refine inn f f2 (by omega) (fun w => ?_) _ 2 rfl (by omega) (by omega) w
      refine hX _ _ _ _ _ _ _ ?_
      rw [fF_skip (11 - f) _ _ (fP_np (by omega)), show 80 - (10 * f + (f + 1)) - (11 - f) = 80 - (10 * (f + 1) + 2) by omega, show 10 * f + (f + 1) + (11 - f) = 10 * (f + 1) + 2 by omega] at w
      have h9 := ih (f + 1) (by omega) (by omega) (by omega) w
      rw [← nI_1 f] at h9
      exact h9
  refine hX _ _ _ _ _ _ _ ?_
  exact out _ 2 rfl (by omega) (by omega) rfl
/-- parts counted up to a pair -/
def PC (P : Nat → Bool) (g : Nat) (W : mSg) (p : Nat) : Prop := ∀ v, v < 10 → ∃ q, W 3 v = nI q ∧ q + cA (pV P g v) (80 - p) p = cA (pV P g v) 58 22
theorem c_partPairs {r g : Nat} {σ : mSg} (g1 : 1 ≤ g) (g6 : g ≤ 6) (hr : r ≤ 20) (hG : GR σ B r) (hg : ∀ i, i < r → 1 ≤ B (2 * i) ∧ B (2 * i) ≤ 6) (h2 : ∀ i, i < r → B (2 * i + 1) ≤ 2) (hq : ∀ σ', (∀ c, c ≠ 3 → σ' c = σ c) → (∀ v, v < 10 → σ' 3 v = nI (cA (pV (fP B r) g v) 58 22)) → Q (.inl none) sh_1 σ') : mD (d + 3) 248 [.ref 0, .int (nI g)] sh_1 σ Q := by
  refine ⟨rfl, fun X hX => ?_⟩
  have hGW : ∀ W : mSg, (∀ c, c ≠ 3 → W c = σ c) → GR W B r := by
    intro W w
    unfold GR
    rw [w 0 (by omega), w 1 (by omega), w 2 (by omega)]
    exact hG
  have inn : ∀ f, 2 ≤ f → f ≤ 7 → (∀ W, (∀ c, c ≠ 3 → W c = σ c) → PC (fP B r) g W (10 * f + (f + 1)) → X 49 [some (.ref 0), some (.int (nI g)), some (.int (nI f)), none] [] sh_1 W 0 0) → ∀ j o W, f + 1 - o = j → 2 ≤ o → o ≤ f + 1 → (∀ c, c ≠ 3 → W c = σ c) → PC (fP B r) g W (10 * f + o) → X 14 [some (.ref 0), some (.int (nI g)), some (.int (nI f)), some (.int (nI o))] [] sh_1 W 0 0 := by
    intro f f2 f7 hk j
    induction j with
    | zero =>
      intro o W hj o2 of w1 w
      have eo : o = f + 1 := by omega
      subst eo
      refine hX _ _ _ _ _ _ _ ?_
      refine b_gt rfl rfl (by omega) (by omega) (fun _ => ?_) (fun h => by omega)
      exact hk W w1 w
    | succ j ih =>
      intro o W hj o2 of w1 w
      have hy := fP_yp (B := B) (r := r) (f := f) (o := o) (by omega) o2 (by omega)
      have hd : ∀ v, cA (pV (fP B r) g v) (80 - (10 * f + o)) (10 * f + o) = (if pV (fP B r) g v (10 * f + o) = true then 1 else 0) + cA (pV (fP B r) g v) (80 - (10 * f + (o + 1))) (10 * f + (o + 1)) := by
        intro v
        rw [show 80 - (10 * f + o) = (80 - (10 * f + (o + 1))) + 1 by omega]
        rfl
      have p43 : ∀ W, (∀ c, c ≠ 3 → W c = σ c) → PC (fP B r) g W (10 * f + (o + 1)) → X 43 [some (.ref 0), some (.int (nI g)), some (.int (nI f)), some (.int (nI o))] [] sh_1 W 0 0 := by
        intro W w1 w
        refine hX _ _ _ _ _ _ _ ?_
        have h9 := ih (o + 1) W (by omega) (by omega) (by omega) w1 w
        rw [← nI_1 o] at h9
        exact h9
      have ht := th_le (p := 10 * f + o) (g := g)
      refine hX _ _ _ _ _ _ _ ?_
      refine b_gt rfl rfl (by omega) (by omega) (fun h => by omega) (fun _ => ?_)
      refine c_isPairFit (B := B) (r := r) (by omega) (by omega) hr (hGW W w1) hg h2 (fun h => ?_) (fun h => ?_)
      · refine ⟨fun z => absurd z (by decide +kernel), fun _ => ?_⟩
        refine c_passes rfl (by omega) (by omega) (by omega) ?_
        refine ⟨vp_in_nI (by omega) (by omega), ?_⟩
        refine ⟨vp_in_nI (by omega) (by omega), ?_⟩
        refine p43 _ (fun c hc => by rw [mput_ne hc]; exact w1 c hc) (fun v hv => ?_)
        obtain ⟨q, hq1, hq2⟩ := w v hv
        rw [mput_eq, nI_clamp (by omega)]
        have hdv := hd v
        unfold pV at hdv
        rw [hy, h, Bool.true_and] at hdv
        by_cases ev : v = th (10 * f + o) g
        · rw [if_pos (decide_eq_true ev.symm)] at hdv
          refine ⟨q + 1, ?_, ?_⟩
          · rw [← ev, upd_at, hq1]; exact nI_add q 1
          · show q + 1 + cA (pV (fP B r) g v) _ _ = _
            unfold pV at hq2 ⊢
            omega
        · rw [if_neg (fun z => ev (of_decide_eq_true z).symm)] at hdv
          refine ⟨q, ?_, ?_⟩
          · rw [upd_off ev, hq1]
          · unfold pV at hq2 ⊢
            omega
      · refine ⟨fun _ => ?_, fun z => absurd rfl z⟩
        refine p43 W w1 (fun v hv => ?_)
        obtain ⟨q, hq1, hq2⟩ := w v hv
        have hdv := hd v
        have hno : ¬ pV (fP B r) g v (10 * f + o) = true := by
          unfold pV
          rw [hy, Bool.and_eq_true]
          exact fun z => h z.1
        rw [if_neg hno] at hdv
        exact ⟨q, hq1, by omega⟩
  have out : ∀ j f W, 8 - f = j → 2 ≤ f → f ≤ 8 → (∀ c, c ≠ 3 → W c = σ c) → PC (fP B r) g W (10 * f + 2) → X 6 [some (.ref 0), some (.int (nI g)), some (.int (nI f)), none] [] sh_1 W 0 0 := by
    intro j
    induction j with
    | zero =>
      intro f W hj f2 f8 w1 w
      have ef : f = 8 := by omega
      subst ef
      refine hX _ _ _ _ _ _ _ ?_
      refine b_gt rfl (b := 7) rfl (by omega) (by omega) (fun _ => ?_) (fun h => by omega)
      refine hX _ _ _ _ _ _ _ ?_
      refine hq W w1 (fun v hv => ?_)
      obtain ⟨q, hq1, hq2⟩ := w v hv
      have hq2 : q = cA (pV (fP B r) g v) 58 22 := hq2
      rw [hq1, hq2]
    | succ j ih =>
      intro f W hj f2 f8 w1 w
      refine hX _ _ _ _ _ _ _ ?_
      refine b_gt rfl (b := 7) rfl (by omega) (by omega) (fun h => by omega) (fun _ => ?_)
      refine inn f f2 (by omega) (fun W w1 w => ?_) _ 2 W rfl (by omega) (by omega) w1 w
      refine hX _ _ _ _ _ _ _ ?_
      have h9 := ih (f + 1) W (by omega) (by omega) (by omega) w1 (fun v hv => by
        obtain ⟨q, hq1, hq2⟩ := w v hv
        refine ⟨q, hq1, ?_⟩
        rw [cA_skip (11 - f) _ _ (fun p a b => by unfold pV; rw [fP_np (f := f) (by omega) p a b, Bool.false_and]), show 80 - (10 * f + (f + 1)) - (11 - f) = 80 - (10 * (f + 1) + 2) by omega, show 10 * f + (f + 1) + (11 - f) = 10 * (f + 1) + 2 by omega] at hq2
        exact hq2)
      rw [← nI_1 f] at h9
      exact h9
  refine hX _ _ _ _ _ _ _ ?_
  refine c_clearParts (fun σ2 p1 p2 => ?_)
  exact out _ 2 σ2 rfl (by omega) (by omega) p1 (fun v hv => ⟨0, p2 v hv, Nat.zero_add _⟩)
theorem c_grainToSift {r : Nat} {σ : mSg} (hr : r ≤ 20) (hG : GR σ B r) (hg : ∀ i, i < r → 1 ≤ B (2 * i) ∧ B (2 * i) ≤ 6) (h2 : ∀ i, i < r → B (2 * i + 1) ≤ 2) (hq : ∀ σ', (∀ c, 4 ≤ c → σ' c = σ c) → Q (.inl (some (.int (sSi (fP B r))))) sh_1 σ') : mD (d + 4) 247 [.ref 0] sh_1 σ Q := by
  refine ⟨rfl, fun X hX => ?_⟩
  unfold sSi at hq
  have hc58 := cA_le (P := fP B r) 58 22
  have hGW : ∀ W : mSg, (∀ c, c ≠ 3 → W c = σ c) → GR W B r := by
    intro W w
    unfold GR
    rw [w 0 (by omega), w 1 (by omega), w 2 (by omega)]
    exact hG
  have loop : ¬ cA (fP B r) 58 22 < 2 → ∀ j k W, 6 - k = j → k ≤ 6 → (∀ c, c ≠ 3 → W c = σ c) → X 17 [some (.ref 0), some (.int (oM (nI 1) (aF (gS (fP B r)) 22 k).1)), some (.int (nI (aF (gS (fP B r)) 22 k).2)), some (.int (nI (k + 1)))] [] sh_1 W 0 0 := by
    intro hn2 j
    induction j with
    | zero =>
      intro k W hj hk w1
      have ek : k = 6 := by omega
      subst ek
      refine hX _ _ _ _ _ _ _ ?_
      refine b_gt rfl (b := 6) rfl (by omega) (by omega) (fun _ => ?_) (fun h => by omega)
      refine hX _ _ _ _ _ _ _ ?_
      have hq := hq W (fun c hc => w1 c (by omega))
      have hg1 := gS_21 (B := B) (r := r) (g := 1)
      obtain ⟨ea, b, hb⟩ := aF_eq (G := gS (fP B r)) (l0 := 2000000000) (l1 := 22) (by omega) (by omega) 5
      rw [show 5 + 1 = 6 from rfl] at ea hb
      rw [if_neg hn2, hb] at hq
      rw [← ea, hb]
      exact hq
    | succ j ih =>
      intro k W hj hk w1
      have hgk := gS_le (P := fP B r) (g := k + 1)
      have hal := aF_le (G := gS (fP B r)) (l0 := 22) k
      have hd : aF (gS (fP B r)) 22 (k + 1) = if gS (fP B r) (k + 1) < (aF (gS (fP B r)) 22 k).2 then (some (k + 1), gS (fP B r) (k + 1)) else aF (gS (fP B r)) 22 k := rfl
      refine hX _ _ _ _ _ _ _ ?_
      refine b_gt rfl (b := 6) rfl (by omega) (by omega) (fun h => by omega) (fun _ => ?_)
      refine c_partPairs (B := B) (by omega) (by omega) hr (hGW W w1) hg h2 (fun W2 u1 u2 => ?_)
      have u3 : ∀ c, c ≠ 3 → W2 c = σ c := fun c hc => (u1 c hc).trans (w1 c hc)
      have h9 := ih (k + 1) W2 (by omega) (by omega) u3
      have hb : ∀ i, i < 10 → (fun v => cA (pV (fP B r) (k + 1) v) 58 22) i ≤ 99 := fun i _ => by
        have := cA_le (P := pV (fP B r) (k + 1) i) 58 22
        show cA (pV (fP B r) (k + 1) i) 58 22 ≤ 99
        omega
      refine c_greatestPart (F := fun v => cA (pV (fP B r) (k + 1) v) 58 22) u2 hb ?_
      refine b_ge (show nI (gM (fun v => cA (pV (fP B r) (k + 1) v) 58 22) 10) = nI (gS (fP B r) (k + 1)) from rfl) rfl (by omega) (by omega) (fun h => ?_) (fun h => ?_)
      · rw [if_neg (Nat.not_lt.mpr h)] at hd
        refine hX _ _ _ _ _ _ _ ?_
        rw [hd, ← nI_1 (k + 1)] at h9
        exact h9
      · rw [if_pos h] at hd
        refine c_greatestPart (F := fun v => cA (pV (fP B r) (k + 1) v) 58 22) u2 hb ?_
        refine hX _ _ _ _ _ _ _ ?_
        rw [hd, ← nI_1 (k + 1)] at h9
        exact h9
  refine hX _ _ _ _ _ _ _ ?_
  refine c_pairsThatFit (B := B) hr hG hg h2 ?_
  refine b_ge rfl (b := 2) rfl (by omega) (by omega) (fun h => ?_) (fun h => ?_)
  · refine hX _ _ _ _ _ _ _ ?_
    exact loop (by omega) _ 0 σ rfl (Nat.zero_le _) (fun _ _ => rfl)
  · have hq := hq σ (fun _ _ => rfl)
    rw [if_pos h] at hq
    exact hq
theorem gdR.h {t most : Nat} (h : gdR B t most) : ∀ i, i < t / 2 → B (2 * i + 1) ≤ most := fun i hi => (h.2.2 i (by omega)).2
theorem GX.of4 {W σ2 : mSg} (g : GX σ W) : GX σ (mback [(171, 4)] W σ2) := by
  have hh : ∀ c, c < 171 ∨ 175 ≤ c → mback [(171, 4)] W σ2 c = W c := fun c hc => mback_out (by omega)
  exact ⟨by rw [hh 1 (by omega)]; exact g.1, fun c a b => by rw [hh c b]; exact g.2 c a b⟩
set_option maxRecDepth 100000 in
theorem c_ymeshes {t : Nat} {u : Int32} {first : Bool} (hu : u = (if first = true then nI 1 else nI 0)) (h3 : σ 1 3 = nI t) (ht : t ≤ 400) (hb : ∀ k, k < t → σ 2 k = nI (B k) ∧ B k < 256) (q1 : gdR B t 2 → ∀ σ', GX σ σ' → Q (.inl (some (.int (sMe (fP B (t / 2)) first)))) sh_9 σ') (q0 : ¬ gdR B t 2 → ∀ σ', GX σ σ' → Q (.inr 0) sh_9 σ') : mD (d + 4) 35 [.ref 0, .int u] sh_9 σ Q := by
  refine ⟨rfl, fun X hX => ?_⟩
  refine hX _ _ _ _ _ _ _ ?_
  refine c_needRows (B := B) h3 ht hb (by omega) (fun hg W g1 g2 => ?_) q0
  have hq := q1 hg
  unfold sMe at hq
  cases first with
  | true =>
    rw [if_pos rfl] at hu hq
    subst hu
    refine ⟨fun z => absurd z (by decide +kernel), fun _ => ?_⟩
    refine c_firstPair (B := B) hg.g.2 g2 hg.g.1 hg.h ?_
    refine hX _ _ _ _ _ _ _ ?_
    exact hq _ g1.of4
  | false =>
    rw [if_neg (by decide)] at hu hq
    subst hu
    refine ⟨fun _ => ?_, fun z => absurd rfl z⟩
    refine hX _ _ _ _ _ _ _ ?_
    refine c_pairsThatFit (B := B) hg.g.2 g2 hg.g.1 hg.h ?_
    refine hX _ _ _ _ _ _ _ ?_
    exact hq _ g1.of4
set_option maxRecDepth 100000 in
theorem c_ysift {t : Nat} (h3 : σ 1 3 = nI t) (ht : t ≤ 400) (hb : ∀ k, k < t → σ 2 k = nI (B k) ∧ B k < 256) (q1 : gdR B t 2 → ∀ σ', GX σ σ' → Q (.inl (some (.int (sSi (fP B (t / 2)))))) sh_9 σ') (q0 : ¬ gdR B t 2 → ∀ σ', GX σ σ' → Q (.inr 0) sh_9 σ') : mD (d + 5) 36 [.ref 0] sh_9 σ Q := by
  refine ⟨rfl, fun X hX => ?_⟩
  refine hX _ _ _ _ _ _ _ ?_
  refine c_needRows (B := B) h3 ht hb (by omega) (fun hg W g1 g2 => ?_) q0
  refine c_grainToSift (B := B) hg.g.2 g2 hg.g.1 hg.h (fun σ2 h2 => ?_)
  exact q1 hg _ g1.of4
end CSI
