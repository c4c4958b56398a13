/-! THE CLASS: rows told of a grain and a number -/
def gdR (B : Nat → Nat) (t most : Nat) : Prop := t % 2 = 0 ∧ t ≤ 40 ∧ ∀ i, 2 * i < t → (1 ≤ B (2 * i) ∧ B (2 * i) ≤ 6) ∧ B (2 * i + 1) ≤ most
def GR (σ : mSg) (B : Nat → Nat) (r : Nat) : Prop := σ 0 3 = nI r ∧ ∀ i, i < r → σ 1 i = nI (B (2 * i)) ∧ σ 2 i = nI (B (2 * i + 1))
/-- how many of the first rows are wrong of a street -/
def wrN (m : Nat → Int32) (B : Nat → Nat) (s : Nat) : Nat → Nat
  | 0 => 0
  | i + 1 => if m (22 + 9 * s + B (2 * i)) = nI (B (2 * i + 1)) then wrN m B s i else wrN m B s i + 1
theorem wrN_le {m : Nat → Int32} {B : Nat → Nat} {s : Nat} : ∀ i, wrN m B s i ≤ i
  | 0 => Nat.le_refl _
  | i + 1 => by
    have := wrN_le (m := m) (B := B) (s := s) i
    rw [wrN]
    split <;> omega
def fiB (m : Nat → Int32) (B : Nat → Nat) (r s : Nat) : Bool := decide (wrN m B s r ≤ 1)
/-- the likeliest of the first streets -/
def lkN (w : Nat → Nat) : Nat → Option Nat
  | 0 => none
  | k + 1 => match lkN w k with
    | none => if w k < 2 then some k else none
    | some b => if w k < w b then some k else some b
def lkF (w : Nat → Nat) : Option Nat → Nat
  | none => 2
  | some b => w b
theorem lkN_s {w : Nat → Nat} {k : Nat} : lkN w (k + 1) = if w k < lkF w (lkN w k) then some k else lkN w k := by
  rw [lkN]
  cases lkN w k <;> rfl
theorem lkN_ok {w : Nat → Nat} : ∀ k b, lkN w k = some b → b < k ∧ w b < 2
  | 0, b, h => by cases h
  | k + 1, b, h => by
    rw [lkN_s] at h
    split at h
    · cases h
      rename_i hlt
      refine ⟨by omega, ?_⟩
      cases e : lkN w k with
      | none => rw [e] at hlt; exact hlt
      | some b2 =>
        rw [e] at hlt
        have := lkN_ok k b2 e
        have h3 : w k < w b2 := hlt
        omega
    · have := lkN_ok k b h
      omega
theorem t2 : ∀ t, t < 401 → nI t / nI 2 = nI (t / 2) ∧ nI t - nI t / nI 2 * nI 2 = nI (t % 2) := by decide +kernel
theorem br_eq {x y y1 : Int32} {t f : Prop} (h : y = y1) (ht : x = y1 → t) (hf : ¬ x = y1 → f) : (x = y → t) ∧ (¬ x = y → f) := by
  subst h
  exact ⟨ht, hf⟩
section CGU
variable {d : Nat} {σ : mSg} {m : Nat → Int32} {Q : mPst} {n nc ns nd : Nat} {B : Nat → Nat}
theorem c_mixOfE {s g : Nat} {x : Int32} (hx : x = nI g) (hs : s < 7) (h1 : 1 ≤ g) (h2 : g < 7) (hR : RS σ m) (hq : Q (.inl (some (.int (m (22 + 9 * s + g))))) sh_7 σ) : mD (d + 1) 305 [.ref 0, .int (nI s), .int x] sh_7 σ Q := by
  subst hx
  exact c_mixOf hs h1 h2 hR hq
theorem c_greads {t most : Nat} (h3 : σ 4 3 = nI t) (ht : t ≤ 400) (hb : ∀ k, k < t → σ 5 k = nI (B k) ∧ B k < 256) (hm : most < 100) (q1 : gdR B t most → ∀ σ', (∀ c, c ≠ 0 → c ≠ 1 → c ≠ 2 → σ' c = σ c) → GR σ' B (t / 2) → Q (.inl (some (.int (nI 1)))) sh_1_8 σ') (q0 : ¬ gdR B t most → ∀ σ', (∀ c, c ≠ 0 → c ≠ 1 → c ≠ 2 → σ' c = σ c) → Q (.inl (some (.int (nI 0)))) sh_1_8 σ') : mD (d + 1) 240 [.ref 0, .ref 4, .int (nI most)] sh_1_8 σ Q := by
  refine ⟨rfl, fun X hX => ?_⟩
  have hk0 : ∀ c, c ≠ 0 → c ≠ 1 → c ≠ 2 → mput σ 0 3 (nI 0) c = σ c := fun c h _ _ => mput_ne h
  have bad : ¬ gdR B t most → X 23 [none, none, none, none, none, none] [] sh_1_8 (mput σ 0 3 (nI 0)) 0 0 := by
    intro h
    refine hX _ _ _ _ _ _ _ ?_
    exact ⟨Or.inl rfl, q0 h _ hk0⟩
  have loop : t % 2 = 0 → t ≤ 40 → ∀ r i W, t / 2 - i = r → i ≤ t / 2 → (∀ c, c ≠ 0 → c ≠ 1 → c ≠ 2 → W c = σ c) → GR W B i → (∀ j, j < i → (1 ≤ B (2 * j) ∧ B (2 * j) ≤ 6) ∧ B (2 * j + 1) ≤ most) → X 27 [some (.ref 0), some (.ref 4), some (.int (nI most)), some (.int (nI i)), none, none] [] sh_1_8 W 0 0 := by
    intro he h40 r
    induction r with
    | zero =>
      intro i W hr hi w1 w2 w3
      have ei : i = t / 2 := by omega
      have e3 : W 4 3 / nI 2 = nI (t / 2) := by rw [w1 4 (by omega) (by omega) (by omega), h3]; exact (t2 t (by omega)).1
      refine hX _ _ _ _ _ _ _ ?_
      refine ⟨by decide +kernel, ?_⟩
      refine b_ge rfl e3 (by omega) (by omega) (fun _ => ?_) (fun h => by omega)
      refine hX _ _ _ _ _ _ _ ?_
      exact ⟨Or.inr rfl, q1 ⟨he, h40, fun j hj => w3 j (by omega)⟩ W w1 (ei ▸ w2)⟩
    | succ r ih =>
      intro i W hr hi w1 w2 w3
      have e3 : W 4 3 / nI 2 = nI (t / 2) := by rw [w1 4 (by omega) (by omega) (by omega), h3]; exact (t2 t (by omega)).1
      have i1 : nI 2 * nI i = nI (2 * i) := nI_mul 2 i
      have i2 : nI 2 * nI i + nI 1 = nI (2 * i + 1) := by rw [nI_mul, nI_add]
      have b1 := hb (2 * i) (by omega)
      have b2 := hb (2 * i + 1) (by omega)
      have x1 : W 5 (nI 2 * nI i).toNatClampNeg = nI (B (2 * i)) := by rw [clN i1 (by omega), w1 5 (by omega) (by omega) (by omega)]; exact b1.1
      have x2 : W 5 (nI 2 * nI i + nI 1).toNatClampNeg = nI (B (2 * i + 1)) := by rw [clN i2 (by omega), w1 5 (by omega) (by omega) (by omega)]; exact b2.1
      have no : ¬ ((1 ≤ B (2 * i) ∧ B (2 * i) ≤ 6) ∧ B (2 * i + 1) ≤ most) → X 78 [none, none, none, none, none, none] [] sh_1_8 W 0 0 := by
        intro h
        refine hX _ _ _ _ _ _ _ ?_
        exact ⟨Or.inl rfl, q0 (fun z => h (z.2.2 i (by omega))) W w1⟩
      have nxt : ∀ W x, x = nI (i + 1) → (∀ c, c ≠ 0 → c ≠ 1 → c ≠ 2 → W c = σ c) → GR W B (i + 1) → (∀ j, j < i + 1 → (1 ≤ B (2 * j) ∧ B (2 * j) ≤ 6) ∧ B (2 * j + 1) ≤ most) → X 27 [some (.ref 0), some (.ref 4), some (.int (nI most)), some (.int x), none, none] [] sh_1_8 W 0 0 := by
        intro W x hx
        subst hx
        exact ih (i + 1) W (by omega) (by omega)
      refine hX _ _ _ _ _ _ _ ?_
      refine ⟨by decide +kernel, ?_⟩
      refine b_ge rfl e3 (by omega) (by omega) (fun h => by omega) (fun _ => ?_)
      refine ⟨vin i1 (by omega) (by omega), ?_⟩
      refine ⟨vin i2 (by omega) (by omega), ?_⟩
      refine b_lt x1 (b := 1) rfl (by omega) (by omega) (fun h => no (by omega)) (fun c1 => ?_)
      refine b_gt x1 (b := 6) rfl (by omega) (by omega) (fun h => no (by omega)) (fun c2 => ?_)
      refine b_le x2 rfl (by omega) (by omega) (fun c3 => ?_) (fun h => no (by omega))
      refine hX _ _ _ _ _ _ _ ?_
      refine ⟨vp_in_nI (by omega) (by omega), ?_⟩
      refine ⟨vp_in_nI (by omega) (by omega), ?_⟩
      refine nxt _ _ (nI_1 i) (fun c a b e => ?_) ⟨?_, fun j hj => ?_⟩ (fun j hj => ?_)
      · rw [mput_ne a, mput_ne e, mput_ne b]
        exact w1 c a b e
      · show W 0 3 + nI 1 = nI (i + 1)
        rw [w2.1, nI_add]
      · show upd (W 1) (nI i).toNatClampNeg (W 5 (nI 2 * nI i).toNatClampNeg) j = _ ∧ upd (W 2) (nI i).toNatClampNeg (W 5 (nI 2 * nI i + nI 1).toNatClampNeg) j = _
        rw [nI_clamp (by omega), x1, x2]
        by_cases ej : j = i
        · rw [ej, upd_at, upd_at]
          exact ⟨rfl, rfl⟩
        · rw [upd_off ej, upd_off ej]
          exact w2.2 j (by omega)
      · by_cases ej : j = i
        · rw [ej]; exact ⟨⟨c1, c2⟩, c3⟩
        · exact w3 j (by omega)
  refine hX _ _ _ _ _ _ _ ?_
  refine b_gt (show (mput σ 0 3 (nI 0)) 4 3 = nI t from h3) (b := 40) rfl (by omega) (by omega) (fun h => bad (fun z => by have := z.2.1; omega)) (fun h40 => ?_)
  refine ⟨by decide +kernel, ?_⟩
  have em : (mput σ 0 3 (nI 0)) 4 3 - (mput σ 0 3 (nI 0)) 4 3 / nI 2 * nI 2 = nI (t % 2) := by
    rw [show (mput σ 0 3 (nI 0)) 4 3 = nI t from h3]
    exact (t2 t (by omega)).2
  refine b_eq em (b := 0) rfl (by omega) (by omega) (fun he => ?_) (fun he => bad (fun z => he z.1))
  refine hX _ _ _ _ _ _ _ ?_
  exact loop he h40 _ 0 _ rfl (Nat.zero_le _) hk0 ⟨rfl, fun j hj => absurd hj (by omega)⟩ (fun j hj => absurd hj (by omega))
/-- the yard's world behind a call that uses the tape up and tells of rows -/
def GX (σ σ' : mSg) : Prop := σ' 1 3 = nI 0 ∧ ∀ c, c < 1 ∨ 5 ≤ c → c < 171 ∨ 175 ≤ c → σ' c = σ c
def GY (σ : mSg) (B : Nat → Nat) (r : Nat) : Prop := GR (fun j => σ (mgl [(171, 4), (5, 9)] j)) B r
set_option maxRecDepth 100000 in
theorem c_needRows {t most : Nat} (h3 : σ 1 3 = nI t) (ht : t ≤ 400) (hb : ∀ k, k < t → σ 2 k = nI (B k) ∧ B k < 256) (hm : most < 100) (q1 : gdR B t most → ∀ σ', GX σ σ' → GY σ' B (t / 2) → Q (.inl none) sh_9 σ') (q0 : ¬ gdR B t most → ∀ σ', GX σ σ' → Q (.inr 0) sh_9 σ') : mD (d + 2) 62 [.ref 0, .int (nI most)] sh_9 σ Q := by
  refine ⟨rfl, fun X hX => ?_⟩
  refine hX _ _ _ _ _ _ _ ?_
  refine c_greads (B := B) (t := t) h3 ht hb hm (fun hg σ2 g1 g2 => ?_) (fun hg σ2 g1 => ?_)
  · refine c_clear ?_
    refine ⟨fun _ => ?_, fun z => absurd z (by decide +kernel)⟩
    refine hX _ _ _ _ _ _ _ ?_
    refine q1 hg _ ⟨rfl, fun c a b => ?_⟩ g2
    exact (mback_out (k := 1) (n := 4) (by omega)).trans (mback_out2 (k := 171) (n := 4) (k2 := 1) (n2 := 4) (by omega) (by omega))
  · refine c_clear ?_
    refine ⟨fun z => absurd rfl z, fun _ => ?_⟩
    refine q0 hg _ ⟨rfl, fun c a b => ?_⟩
    exact (mback_out (k := 1) (n := 4) (by omega)).trans (mback_out2 (k := 171) (n := 4) (k2 := 1) (n2 := 4) (by omega) (by omega))
theorem c_wrongRows {s r : Nat} {σ : mSg} (hs : s < 7) (hr : r ≤ 20) (hG : GR σ B r) (hg : ∀ i, i < r → 1 ≤ B (2 * i) ∧ B (2 * i) ≤ 6) (hR : RR σ m) (hq : Q (.inl (some (.int (nI (wrN m B s r))))) sh_1_7 σ) : mD (d + 2) 244 [.ref 0, .ref 4, .int (nI s)] sh_1_7 σ Q := by
  refine ⟨rfl, fun X hX => ?_⟩
  have loop : ∀ j k W, r - k = j → k ≤ r → W = σ → X 5 [some (.ref 0), some (.ref 4), some (.int (nI s)), some (.int (nI (wrN m B s k))), some (.int (nI k))] [] sh_1_7 W 0 0 := by
    intro j
    induction j with
    | zero =>
      intro k W hj hk hW
      have ek : k = r := by omega
      subst ek
      refine hX _ _ _ _ _ _ _ ?_
      refine b_ge rfl (show W 0 3 = nI k by rw [hW]; exact hG.1) (by omega) (by omega) (fun _ => ?_) (fun h => by omega)
      refine hX _ _ _ _ _ _ _ ?_
      exact qw (Q := Q) hW hq
    | succ j ih =>
      intro k W hj hk hW
      have hk2 : k < r := by omega
      have hgk := hg k hk2
      have e1 : W 1 (nI k).toNatClampNeg = nI (B (2 * k)) := by rw [hW, nI_clamp (by omega)]; exact (hG.2 k hk2).1
      have hW2 := rn4 hW
      have e2 : mback [(4, 9)] W (fun j => W (mgl [(4, 9)] j)) 2 (nI k).toNatClampNeg = nI (B (2 * k + 1)) := by rw [hW2, nI_clamp (by omega)]; exact (hG.2 k hk2).2
      have hd : wrN m B s (k + 1) = if m (22 + 9 * s + B (2 * k)) = nI (B (2 * k + 1)) then wrN m B s k else wrN m B s k + 1 := rfl
      have h9 := ih (k + 1) _ (by omega) (by omega) hW2
      refine hX _ _ _ _ _ _ _ ?_
      refine b_ge rfl (show W 0 3 = nI r by rw [hW]; exact hG.1) (by omega) (by omega) (fun h => by omega) (fun _ => ?_)
      refine ⟨vp_in_nI (by omega) (by omega), ?_⟩
      refine c_mixOfE e1 hs hgk.1 (by omega) (rs4 hW hR) ?_
      refine ⟨vp_in_nI (by omega) (by omega), ?_⟩
      refine br_eq e2 (fun h => ?_) (fun h => ?_)
      · rw [if_pos h] at hd
        refine hX _ _ _ _ _ _ _ ?_
        rw [hd, ← nI_1 k] at h9
        exact h9
      · rw [if_neg h] at hd
        refine hX _ _ _ _ _ _ _ ?_
        rw [hd, ← nI_1 (wrN m B s k), ← nI_1 k] at h9
        exact h9
  refine hX _ _ _ _ _ _ _ ?_
  exact loop _ 0 σ rfl (Nat.zero_le _) rfl
theorem c_streetsThatFit {r : Nat} {σ : mSg} (hB : BD m n nc ns nd) (hr : r ≤ 20) (hG : GR σ B r) (hg : ∀ i, i < r → 1 ≤ B (2 * i) ∧ B (2 * i) ≤ 6) (hR : RR σ m) (hq : Q (.inl (some (.int (sSet (fiB m B r) n)))) sh_1_7 σ) : mD (d + 3) 241 [.ref 0, .ref 4] sh_1_7 σ Q := by
  have hn := hB.1.2
  have e : σ 4 7 = nI n := (hR.g rf0.1).trans hB.1.1
  refine ⟨rfl, fun X hX => ?_⟩
  have loop : ∀ j k, n - k = j → k ≤ n → X 4 [some (.ref 0), some (.ref 4), some (.int (sSet (fiB m B r) k)), some (.int (nI k))] [] sh_1_7 σ 0 0 := by
    intro j
    induction j with
    | zero =>
      intro k hj hk
      have ek : k = n := by omega
      subst ek
      refine hX _ _ _ _ _ _ _ ?_
      refine b_ge rfl e (by omega) (by omega) (fun _ => ?_) (fun h => by omega)
      refine hX _ _ _ _ _ _ _ ?_
      exact hq
    | succ j ih =>
      intro k hj hk
      have hw := wrN_le (m := m) (B := B) (s := k) r
      have h9 := ih (k + 1) (by omega) (by omega)
      refine hX _ _ _ _ _ _ _ ?_
      refine b_ge rfl e (by omega) (by omega) (fun h => by omega) (fun _ => ?_)
      refine c_wrongRows (B := B) (r := r) (by omega) hr hG hg hR ?_
      refine b_gt rfl (b := 1) rfl (by omega) (by omega) (fun h => ?_) (fun h => ?_)
      · refine hX _ _ _ _ _ _ _ ?_
        rw [sSet, if_neg (show ¬ fiB m B r k = true by unfold fiB; rw [decide_eq_true_iff]; omega), ← nI_1 k] at h9
        exact h9
      · refine hX _ _ _ _ _ _ _ ?_
        rw [sSet, if_pos (show fiB m B r k = true by unfold fiB; rw [decide_eq_true_iff]; omega), ← nI_1 k] at h9
        exact h9
  refine hX _ _ _ _ _ _ _ ?_
  exact loop _ 0 rfl (Nat.zero_le _)
theorem c_likeliest {r : Nat} {σ : mSg} (hB : BD m n nc ns nd) (hr : r ≤ 20) (hG : GR σ B r) (hg : ∀ i, i < r → 1 ≤ B (2 * i) ∧ B (2 * i) ≤ 6) (hR : RR σ m) (hq : Q (.inl (some (.int (oM (-(nI 1)) (lkN (fun s => wrN m B s r) n))))) sh_1_7 σ) : mD (d + 3) 242 [.ref 0, .ref 4] sh_1_7 σ Q := by
  have hn := hB.1.2
  have e : σ 4 7 = nI n := (hR.g rf0.1).trans hB.1.1
  refine ⟨rfl, fun X hX => ?_⟩
  have loop : ∀ j k, n - k = j → k ≤ n → X 7 [some (.ref 0), some (.ref 4), some (.int (oM (-(nI 1)) (lkN (fun s => wrN m B s r) k))), some (.int (nI (lkF (fun s => wrN m B s r) (lkN (fun s => wrN m B s r) k)))), some (.int (nI k)), none] [] sh_1_7 σ 0 0 := by
    intro j
    induction j with
    | zero =>
      intro k hj hk
      have ek : k = n := by omega
      subst ek
      refine hX _ _ _ _ _ _ _ ?_
      refine b_ge rfl e (by omega) (by omega) (fun _ => ?_) (fun h => by omega)
      refine hX _ _ _ _ _ _ _ ?_
      exact hq
    | succ j ih =>
      intro k hj hk
      have hw := wrN_le (m := m) (B := B) (s := k) r
      have h9 := ih (k + 1) (by omega) (by omega)
      have hd := lkN_s (w := fun s => wrN m B s r) (k := k)
      have hok := lkN_ok (w := fun s => wrN m B s r) k
      generalize lkN (fun s => wrN m B s r) (k + 1) = o2 at hd h9
      generalize lkN (fun s => wrN m B s r) k = o at hd hok ⊢
      have hF : lkF (fun s => wrN m B s r) o ≤ 2 := by
        cases o with
        | none => exact Nat.le_refl _
        | some b => exact Nat.le_of_lt (hok b rfl).2
      refine hX _ _ _ _ _ _ _ ?_
      refine b_ge rfl e (by omega) (by omega) (fun h => by omega) (fun _ => ?_)
      refine c_wrongRows (B := B) (r := r) (by omega) hr hG hg hR ?_
      refine b_ge rfl rfl (by omega) (by omega) (fun h => ?_) (fun h => ?_)
      · rw [if_neg (Nat.not_lt.mpr h)] at hd
        subst hd
        refine hX _ _ _ _ _ _ _ ?_
        rw [← nI_1 k] at h9
        exact h9
      · rw [if_pos h] at hd
        subst hd
        refine hX _ _ _ _ _ _ _ ?_
        rw [← nI_1 k] at h9
        exact h9
  refine hX _ _ _ _ _ _ _ ?_
  exact loop _ 0 rfl (Nat.zero_le _)
end CGU
