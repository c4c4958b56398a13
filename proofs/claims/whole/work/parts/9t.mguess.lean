/-! THE MODEL: which street it was, which grain to ask for -/
theorem g2_iff {b lo hi : Nat} (hb : b < 2 ^ 31) (h1 : lo < 2 ^ 31) (h2 : hi < 2 ^ 31) : sIn (nI b) (nI lo) (nI hi) ↔ (lo ≤ b ∧ b ≤ hi) := by
  unfold sIn
  rw [nI_leI h1 hb, nI_leI hb h2]
section MGU
variable {d : Nat} {σ : mSg} {Q : mPst} {n nc ns nd : Nat} {B : Nat → Nat}
theorem MR.lo {W : mSg} {th : Int32} (h : ∀ c, c < 6 → W c = mput (mput σ 0 8 (nI 0)) 0 0 th c) : MR σ th W := by
  have c0 := h 0 (by omega)
  exact ⟨h 1 (by omega), h 2 (by omega), h 4 (by omega), h 5 (by omega), congrFun c0 0, congrFun c0 3, congrFun c0 6, congrFun c0 8, congrFun c0 12, k15.e (congrFun c0 15)⟩
theorem g_mixOfE {s g : Nat} {x : Int32} (hx : x = nI g) (hs : s < 7) (h1 : 1 ≤ g) (h2 : g < 7) (hq : Q (.inl (some (.int (σ 1 (22 + 9 * s + g))))) sh_10 σ) : mD (d + 1) 85 [.ref 0, .int (nI s), .int x] sh_10 σ Q := by
  subst hx
  exact g_mixOf hs h1 h2 hq
theorem g_hears {t : Nat} (hB : BD (σ 1) n nc ns nd) (h8 : σ 0 8 = nI t) (ht : t ≤ 400) (hb : ∀ k, k < t → σ 5 k = nI (B k) ∧ B k < 256) (q1 : gdR B t 9 → ∀ σ', MR σ (nI 0) σ' → (∀ s, s < n → σ' 13 s = nI (wrN (σ 1) B s (t / 2))) → Q (.inl (some (.int (sSet (fiB (σ 1) B (t / 2)) n)))) sh_10 σ') (q0 : ¬ gdR B t 9 → ∀ σ', MR σ (nI 1) σ' → Q (.inl (some (.int (nI 0)))) sh_10 σ') : mD (d + 3) 187 [.ref 0] sh_10 σ Q := by
  have hn := hB.1.2
  refine ⟨rfl, fun X hX => ?_⟩
  generalize hW0 : mput σ 0 8 (nI 0) = W0
  have k0 : ∀ c, c ≠ 0 → W0 c = σ c := fun c hc => by rw [← hW0]; exact mput_ne hc
  have bad76 : ¬ gdR B t 9 → X 76 [some (.ref 0), some (.int (nI t)), some (.int (nI 0)), none, none, none] [] sh_10 W0 0 0 := by
    intro h
    refine hX _ _ _ _ _ _ _ ?_
    refine ⟨fun _ => ?_, fun z => absurd rfl z⟩
    refine hX _ _ _ _ _ _ _ ?_
    refine hX _ _ _ _ _ _ _ ?_
    refine hX _ _ _ _ _ _ _ ?_
    have fin : X 200 [none, none, none, some (.int (nI 0)), none, none] [] sh_10 (mput W0 0 0 (nI 1)) 0 0 := by
      refine hX _ _ _ _ _ _ _ ?_
      exact q0 h _ (MR.lo (fun c _ => by rw [hW0]))
    refine ⟨vp_in_nI (n := 3) (by omega) (by omega), ?_⟩
    exact ⟨fun _ => fin, fun _ => ⟨fun _ => fin, fun z => absurd rfl z⟩⟩
  have bad30 : ¬ gdR B t 9 → ∀ x, X 30 [some (.ref 0), some (.int (nI t)), some (.int (nI 0)), some (.int x), none, none] [] sh_10 W0 0 0 := by
    intro h x
    refine hX _ _ _ _ _ _ _ ?_
    exact ⟨fun _ => bad76 h, fun _ => ⟨fun _ => bad76 h, fun z => absurd rfl z⟩⟩
  have good : gdR B t 9 → X 76 [some (.ref 0), some (.int (nI t)), some (.int (nI 1)), none, none, none] [] sh_10 W0 0 0 := by
    intro hg
    have hq := q1 hg
    have hgg := hg.g.1
    have he := hg.1
    have h40 := hg.2.1
    generalize hr : t / 2 = r at hq hgg
    have htr : t = 2 * r := by omega
    generalize hW1 : mput W0 0 0 (nI 0) = W1
    have k1 : ∀ c, c ≠ 0 → W1 c = σ c := fun c hc => by rw [← hW1, mput_ne hc]; exact k0 c hc
    have inn : ∀ s, s < n → (∀ W' : mSg, (∀ c, c ≠ 13 → W' c = W1 c) → (∀ j, j < s + 1 → W' 13 j = nI (wrN (σ 1) B j r)) → X 172 [some (.ref 0), some (.int (nI t)), some (.int (nI 1)), some (.int (sSet (fiB (σ 1) B r) s)), some (.int (nI s)), none] [] sh_10 W' 0 0) → ∀ (q i : Nat) (W : mSg), r - i = q → i ≤ r → (∀ c, c ≠ 13 → W c = W1 c) → (∀ j, j < s → W 13 j = nI (wrN (σ 1) B j r)) → W 13 s = nI (wrN (σ 1) B s i) → X 120 [some (.ref 0), some (.int (nI t)), some (.int (nI 1)), some (.int (sSet (fiB (σ 1) B r) s)), some (.int (nI s)), some (.int (nI (2 * i)))] [] sh_10 W 0 0 := by
      intro s hs hk q
      induction q with
      | zero =>
        intro i W hi1 hi2 w1 w2 w3
        have ei : i = r := by omega
        subst ei
        refine hX _ _ _ _ _ _ _ ?_
        refine b_ge rfl rfl (by omega) (by omega) (fun _ => ?_) (fun h => by omega)
        refine hk W w1 (fun j hj => ?_)
        by_cases e : j = s
        · rw [e]; exact w3
        · exact w2 j (by omega)
      | succ q ih =>
        intro i W hi1 hi2 w1 w2 w3
        have hir : i < r := by omega
        have hgi := hgg i (by omega)
        have b1 := (hb (2 * i) (by omega)).1
        have b2 := (hb (2 * i + 1) (by omega)).1
        have k5 : W 5 = σ 5 := (w1 5 (by omega)).trans (k1 5 (by omega))
        have k11 : W 1 = σ 1 := (w1 1 (by omega)).trans (k1 1 (by omega))
        have x1 : W 5 (nI (2 * i)).toNatClampNeg = nI (B (2 * i)) := by rw [nI_clamp (by omega), k5]; exact b1
        have i2 : nI (2 * i) + nI 1 = nI (2 * i + 1) := nI_add _ _
        have x2 : W 5 (nI (2 * i) + nI 1).toNatClampNeg = nI (B (2 * i + 1)) := by rw [clN i2 (by omega), k5]; exact b2
        have hd : wrN (σ 1) B s (i + 1) = if σ 1 (22 + 9 * s + B (2 * i)) = nI (B (2 * i + 1)) then wrN (σ 1) B s i else wrN (σ 1) B s i + 1 := rfl
        have nxt : ∀ e, wrN (σ 1) B s (i + 1) = wrN (σ 1) B s i + e → X 164 [some (.ref 0), some (.int (nI t)), some (.int (nI 1)), some (.int (sSet (fiB (σ 1) B r) s)), some (.int (nI s)), some (.int (nI (2 * i)))] [.int (nI e), .int (W 13 (nI s).toNatClampNeg), .int (nI s), .ref 13] sh_10 W 0 0 := by
          intro e hd
          refine hX _ _ _ _ _ _ _ ?_
          refine ⟨vp_in_nI (by omega) (by omega), ?_⟩
          have h9 := ih (i + 1) (mput W 13 (nI s).toNatClampNeg (W 13 (nI s).toNatClampNeg + nI e)) (by omega) (by omega) (fun c hc => by rw [mput_ne hc]; exact w1 c hc) (fun j hj => by rw [mput_eq, nI_clamp (by omega), upd_off (by omega)]; exact w2 j hj) (by rw [mput_eq, nI_clamp (by omega), upd_at, w3, nI_add, hd])
          rw [show 2 * (i + 1) = 2 * i + 2 by omega, ← nI_add (2 * i) 2] at h9
          exact h9
        refine hX _ _ _ _ _ _ _ ?_
        refine b_ge rfl rfl (by omega) (by omega) (fun h => by omega) (fun _ => ?_)
        refine ⟨vp_in_nI (by omega) (by omega), ?_⟩
        refine ⟨vp_in_nI (by omega) (by omega), ?_⟩
        refine g_mixOfE x1 (by omega) hgi.1 (by omega) ?_
        rw [k11]
        refine ⟨vin i2 (by omega) (by omega), ?_⟩
        refine ⟨fun h => ?_, fun h => ?_⟩
        · have h : ¬ σ 1 (22 + 9 * s + B (2 * i)) = W 5 (nI (2 * i) + nI 1).toNatClampNeg := h
          rw [x2] at h
          rw [if_neg h] at hd
          refine hX _ _ _ _ _ _ _ ?_
          exact nxt 1 hd
        · have h : σ 1 (22 + 9 * s + B (2 * i)) = W 5 (nI (2 * i) + nI 1).toNatClampNeg := h
          rw [x2] at h
          rw [if_pos h] at hd
          exact nxt 0 hd
    have out : ∀ (j s : Nat) (W : mSg), n - s = j → s ≤ n → (∀ c, c ≠ 13 → W c = W1 c) → (∀ j, j < s → W 13 j = nI (wrN (σ 1) B j r)) → X 94 [some (.ref 0), some (.int (nI t)), some (.int (nI 1)), some (.int (sSet (fiB (σ 1) B r) s)), some (.int (nI s)), none] [] sh_10 W 0 0 := by
      intro j
      induction j with
      | zero =>
        intro s W hj hs w1 w2
        have es : s = n := by omega
        have e3 : W 1 3 = nI n := by rw [w1 1 (by omega), k1 1 (by omega)]; exact hB.1.1
        subst es
        refine hX _ _ _ _ _ _ _ ?_
        refine ⟨vp_in_nI (n := 3) (by omega) (by omega), ?_⟩
        refine b_ge rfl e3 (by omega) (by omega) (fun _ => ?_) (fun h => by omega)
        refine hX _ _ _ _ _ _ _ ?_
        exact hq W (MR.lo (fun c hc => by rw [w1 c (by omega), ← hW1, hW0])) w2
      | succ j ih =>
        intro s W hj hs w1 w2
        have e3 : W 1 3 = nI n := by rw [w1 1 (by omega), k1 1 (by omega)]; exact hB.1.1
        refine hX _ _ _ _ _ _ _ ?_
        refine ⟨vp_in_nI (n := 3) (by omega) (by omega), ?_⟩
        refine b_ge rfl e3 (by omega) (by omega) (fun h => by omega) (fun _ => ?_)
        refine ⟨fun z => absurd z (by decide +kernel), fun _ => ?_⟩
        refine ⟨vp_in_nI (by omega) (by omega), ?_⟩
        refine inn s (by omega) (fun W' u1 u2 => ?_) _ 0 _ rfl (Nat.zero_le _) (fun c hc => by rw [mput_ne hc]; exact w1 c hc) (fun j hj => by rw [mput_eq, nI_clamp (by omega), upd_off (by omega)]; exact w2 j hj) (by rw [mput_eq, nI_clamp (by omega), upd_at]; rfl)
        have hw := wrN_le (m := σ 1) (B := B) (s := s) r
        have h9 := ih (s + 1) W' (by omega) (by omega) u1 u2
        have ev : W' 13 (nI s).toNatClampNeg = nI (wrN (σ 1) B s r) := by rw [nI_clamp (by omega)]; exact u2 s (by omega)
        refine hX _ _ _ _ _ _ _ ?_
        refine ⟨vp_in_nI (by omega) (by omega), ?_⟩
        refine b_gt ev (b := 1) rfl (by omega) (by omega) (fun h => ?_) (fun h => ?_)
        · refine hX _ _ _ _ _ _ _ ?_
          refine hX _ _ _ _ _ _ _ ?_
          rw [set_or0 (show ¬ fiB (σ 1) B r s = true by unfold fiB; rw [decide_eq_true_iff]; omega), ← nI_1 s] at h9
          exact h9
        · refine hX _ _ _ _ _ _ _ ?_
          rw [sSet, if_pos (show fiB (σ 1) B r s = true by unfold fiB; rw [decide_eq_true_iff]; omega), ← nI_1 s] at h9
          exact h9
    refine hX _ _ _ _ _ _ _ ?_
    refine ⟨fun z => absurd z (by decide +kernel), fun _ => ?_⟩
    refine hX _ _ _ _ _ _ _ ?_
    have h9 := out _ 0 W1 rfl (Nat.zero_le _) (fun _ _ => rfl) (fun j hj => absurd hj (by omega))
    rw [← hW1] at h9
    exact h9
  have loop : t % 2 = 0 → t ≤ 40 → ∀ r i, t / 2 - i = r → i ≤ t / 2 → (∀ j, j < i → (1 ≤ B (2 * j) ∧ B (2 * j) ≤ 6) ∧ B (2 * j + 1) ≤ 9) → X 30 [some (.ref 0), some (.int (nI t)), some (.int (nI 1)), some (.int (nI (2 * i))), none, none] [] sh_10 W0 0 0 := by
    intro he h40 r
    induction r with
    | zero =>
      intro i hr hi w3
      refine hX _ _ _ _ _ _ _ ?_
      refine b_ge rfl rfl (by omega) (by omega) (fun _ => ?_) (fun h => by omega)
      exact good ⟨he, h40, fun j hj => w3 j (by omega)⟩
    | succ r ih =>
      intro i hr hi w3
      have x1 : W0 5 (nI (2 * i)).toNatClampNeg = nI (B (2 * i)) := by rw [nI_clamp (by omega), k0 5 (by omega)]; exact (hb (2 * i) (by omega)).1
      have i2 : nI (2 * i) + nI 1 = nI (2 * i + 1) := nI_add _ _
      have x2 : W0 5 (nI (2 * i) + nI 1).toNatClampNeg = nI (B (2 * i + 1)) := by rw [clN i2 (by omega), k0 5 (by omega)]; exact (hb (2 * i + 1) (by omega)).1
      have l1 := (hb (2 * i) (by omega)).2
      have l2 := (hb (2 * i + 1) (by omega)).2
      have no : ¬ ((1 ≤ B (2 * i) ∧ B (2 * i) ≤ 6) ∧ B (2 * i + 1) ≤ 9) → X 68 [some (.ref 0), some (.int (nI t)), none, some (.int (nI (2 * i))), none, none] [] sh_10 W0 0 0 := by
        intro h
        refine hX _ _ _ _ _ _ _ ?_
        refine hX _ _ _ _ _ _ _ ?_
        exact bad30 (fun z => h (z.2.2 i (by omega))) _
      refine hX _ _ _ _ _ _ _ ?_
      refine b_ge rfl rfl (by omega) (by omega) (fun h => by omega) (fun _ => ?_)
      refine ⟨fun z => absurd z (by decide +kernel), fun _ => ?_⟩
      refine ⟨vp_in_nI (by omega) (by omega), ?_⟩
      refine g_isGrain (fun h => ?_) (fun h => ?_)
      · rw [x1, g2_iff (by omega) (by omega) (by omega)] at h
        refine ⟨fun z => absurd z (by decide +kernel), fun _ => ?_⟩
        refine ⟨vin i2 (by omega) (by omega), ?_⟩
        refine b_ge x2 (b := 10) rfl (by omega) (by omega) (fun h2 => no (by omega)) (fun h2 => ?_)
        refine hX _ _ _ _ _ _ _ ?_
        have h9 := ih (i + 1) (by omega) (by omega) (fun j hj => by
          by_cases e : j = i
          · rw [e]; exact ⟨h, by omega⟩
          · exact w3 j (by omega))
        rw [show 2 * (i + 1) = 2 * i + 2 by omega, ← nI_add (2 * i) 2] at h9
        exact h9
      · rw [x1, g2_iff (by omega) (by omega) (by omega)] at h
        exact ⟨fun _ => no (fun z => h z.1), fun z => absurd rfl z⟩
  have p27 : ∀ x, (x = nI 1 ∧ t % 2 = 0 ∧ t ≤ 40) ∨ (x = nI 0 ∧ ¬ (t % 2 = 0 ∧ t ≤ 40)) → X 27 [some (.ref 0), some (.int (nI t)), none, none, none, none] [.int x] sh_10 W0 0 0 := by
    rintro x (⟨rfl, h1, h2⟩ | ⟨rfl, h⟩)
    · refine hX _ _ _ _ _ _ _ ?_
      exact loop h1 h2 _ 0 rfl (Nat.zero_le _) (fun j hj => absurd hj (by omega))
    · refine hX _ _ _ _ _ _ _ ?_
      exact bad30 (fun z => h ⟨z.1, z.2.1⟩) _
  have em : σ 0 8 - σ 0 8 / nI 2 * nI 2 = nI (t % 2) := by rw [h8]; exact (t2 t (by omega)).2
  have p26 : ¬ (t % 2 = 0 ∧ t ≤ 40) → X 26 [some (.ref 0), some (.int (nI t)), none, none, none, none] [] sh_10 W0 0 0 := by
    intro h
    refine hX _ _ _ _ _ _ _ ?_
    exact p27 _ (Or.inr ⟨rfl, h⟩)
  rw [← h8] at p26 p27
  rw [← hW0] at p26 p27
  refine hX _ _ _ _ _ _ _ ?_
  refine ⟨by decide +kernel, ?_⟩
  refine b_ne em (b := 0) rfl (by omega) (by omega) (fun h => p26 (fun z => h z.1)) (fun h => ?_)
  refine b_gt h8 (b := 40) rfl (by omega) (by omega) (fun h2 => p26 (fun z => by have := z.2; omega)) (fun h2 => ?_)
  exact p27 _ (Or.inl ⟨rfl, h, h2⟩)
theorem g_from {t : Nat} (hB : BD (σ 1) n nc ns nd) (h8 : σ 0 8 = nI t) (ht : t ≤ 400) (hb : ∀ k, k < t → σ 5 k = nI (B k) ∧ B k < 256) (q1 : gdR B t 9 → ∀ σ', MR σ (nI 0) σ' → Q (.inl (some (.int (sSet (fiB (σ 1) B (t / 2)) n)))) sh_10 σ') (q0 : ¬ gdR B t 9 → ∀ σ', MR σ (nI 1) σ' → Q (.inl (some (.int (nI 0)))) sh_10 σ') : mD (d + 4) 188 [.ref 0] sh_10 σ Q := by
  refine ⟨rfl, fun X hX => ?_⟩
  refine hX _ _ _ _ _ _ _ ?_
  refine g_hears (B := B) hB h8 ht hb (fun hg W hM _ => ?_) (fun hg W hM => ?_)
  · have e := hM.2.2.2.2.1
    refine ⟨fun _ => ?_, fun z => absurd (show W 0 0 ≤ 0 by rw [e]; decide +kernel) z⟩
    refine hX _ _ _ _ _ _ _ ?_
    refine hX _ _ _ _ _ _ _ ?_
    exact q1 hg W hM
  · have e := hM.2.2.2.2.1
    refine ⟨fun z => absurd (show W 0 0 ≤ 0 from z) (by rw [e]; decide +kernel), fun _ => ?_⟩
    refine hX _ _ _ _ _ _ _ ?_
    exact q0 hg W hM
theorem g_likely {t : Nat} (hB : BD (σ 1) n nc ns nd) (h8 : σ 0 8 = nI t) (ht : t ≤ 400) (hb : ∀ k, k < t → σ 5 k = nI (B k) ∧ B k < 256) (q1 : gdR B t 9 → ∀ σ', MR σ (nI 0) σ' → Q (.inl (some (.int (oM (-(nI 1)) (lkN (fun s => wrN (σ 1) B s (t / 2)) n))))) sh_10 σ') (q0 : ¬ gdR B t 9 → ∀ σ', MR σ (nI 1) σ' → Q (.inl (some (.int (nI 0)))) sh_10 σ') : mD (d + 4) 189 [.ref 0] sh_10 σ Q := by
  have hn := hB.1.2
  have h2n : 2 ^ n ≤ 128 := Nat.pow_le_pow_right (n := 2) (by omega) hn
  refine ⟨rfl, fun X hX => ?_⟩
  refine hX _ _ _ _ _ _ _ ?_
  refine g_hears (B := B) hB h8 ht hb (fun hg W hM hw => ?_) (fun hg W hM => ?_)
  · have e := hM.2.2.2.2.1
    have hq := q1 hg W hM
    have e3 : W 1 3 = nI n := by rw [hM.1]; exact hB.1.1
    have hK := sN_lt (P := fiB (σ 1) B (t / 2)) n
    have h20 := hg.g.2
    rw [sSet_nI n hn]
    generalize hwf : (fun s => wrN (σ 1) B s (t / 2)) = w at hq
    have hws : ∀ s, w s = wrN (σ 1) B s (t / 2) := fun s => by rw [← hwf]
    have hw : ∀ s, s < n → W 13 s = nI (w s) := fun s hs => by rw [hws]; exact hw s hs
    have hl : ∀ s, w s ≤ 20 := fun s => by have := wrN_le (m := σ 1) (B := B) (s := s) (t / 2); rw [hws]; omega
    have loop : ∀ j k, n - k = j → k ≤ n → X 18 [some (.ref 0), some (.int (nI (sN (fiB (σ 1) B (t / 2)) n))), some (.int (oM (-(nI 1)) (lkN w k))), some (.int (nI k))] [] sh_10 W 0 0 := by
      intro j
      induction j with
      | zero =>
        intro k hj hk
        have ek : k = n := by omega
        subst ek
        refine hX _ _ _ _ _ _ _ ?_
        refine ⟨vp_in_nI (n := 3) (by omega) (by omega), ?_⟩
        refine b_ge rfl e3 (by omega) (by omega) (fun _ => ?_) (fun h => by omega)
        refine hX _ _ _ _ _ _ _ ?_
        exact hq
      | succ j ih =>
        intro k hj hk
        have h9 := ih (k + 1) (by omega) (by omega)
        have hd := lkN_s (w := w) (k := k)
        have hok := lkN_ok (w := w) k
        have hbi := sN_bit (P := fiB (σ 1) B (t / 2)) (i := k) n
        rw [decide_eq_true (show k < n by omega), Bool.true_and] at hbi
        have hbs := bit_is (sN (fiB (σ 1) B (t / 2)) n) (by omega) k (by omega)
        rw [hbi] at hbs
        generalize lkN w (k + 1) = o2 at hd h9
        generalize lkN w k = o at hd hok ⊢
        have keep : o2 = o → X 58 [some (.ref 0), some (.int (nI (sN (fiB (σ 1) B (t / 2)) n))), some (.int (oM (-(nI 1)) o)), some (.int (nI k))] [] sh_10 W 0 0 := by
          intro h
          refine hX _ _ _ _ _ _ _ ?_
          rw [h, ← nI_1 k] at h9
          exact h9
        have yes : o2 = some k → X 56 [some (.ref 0), some (.int (nI (sN (fiB (σ 1) B (t / 2)) n))), none, some (.int (nI k))] [] sh_10 W 0 0 := by
          intro h
          refine hX _ _ _ _ _ _ _ ?_
          refine hX _ _ _ _ _ _ _ ?_
          rw [h, ← nI_1 k] at h9
          exact h9
        refine hX _ _ _ _ _ _ _ ?_
        refine ⟨vp_in_nI (n := 3) (by omega) (by omega), ?_⟩
        refine b_ge rfl e3 (by omega) (by omega) (fun h => by omega) (fun _ => ?_)
        refine g_isOf (fun h => ?_) (fun h => ?_)
        · have hf : fiB (σ 1) B (t / 2) k = true := by
            refine Classical.byContradiction (fun z => ?_)
            rw [hbs, if_neg z] at h
            exact absurd h (by decide +kernel)
          have hf2 : w k ≤ 1 := by rw [hws]; exact of_decide_eq_true hf
          refine ⟨fun z => absurd z (by decide +kernel), fun _ => ?_⟩
          cases o with
          | none =>
            refine ⟨fun _ => yes ?_, fun z => absurd rfl z⟩
            have hd : o2 = if w k < 2 then some k else none := hd
            rw [hd, if_pos (show w k < 2 by omega)]
          | some b =>
            obtain ⟨ob1, ob2⟩ := hok b rfl
            refine ⟨fun z => absurd z (oM_ne (by omega)), fun _ => ?_⟩
            have hd : o2 = if w k < w b then some k else some b := hd
            refine ⟨vp_in_nI (by omega) (by omega), ?_⟩
            refine ⟨vp_in_nI (n := b) (by omega) (by omega), ?_⟩
            refine b_ge (a := w k) (b := w b) ?_ ?_ (by have := hl k; omega) (by have := hl b; omega) (fun h => keep ?_) (fun h => yes ?_)
            · show W 13 (nI k).toNatClampNeg = _
              rw [nI_clamp (by omega)]; exact hw k (by omega)
            · show W 13 (nI b).toNatClampNeg = _
              rw [nI_clamp (by omega)]; exact hw b (by omega)
            · rw [hd, if_neg (by omega)]
            · rw [hd, if_pos h]
        · have hf : ¬ fiB (σ 1) B (t / 2) k = true := fun z => h (by rw [hbs, if_pos z])
          have hf2 : 1 < w k := by
            refine Nat.lt_of_not_le (fun z => hf ?_)
            rw [hws] at z
            exact decide_eq_true z
          refine ⟨fun _ => keep ?_, fun z => absurd rfl z⟩
          rw [hd, if_neg]
          cases o with
          | none => show ¬ w k < 2; omega
          | some b =>
            have := (hok b rfl).2
            show ¬ w k < w b
            omega
    refine ⟨fun _ => ?_, fun z => absurd (show W 0 0 ≤ 0 by rw [e]; decide +kernel) z⟩
    refine hX _ _ _ _ _ _ _ ?_
    exact loop _ 0 rfl (Nat.zero_le _)
  · have e := hM.2.2.2.2.1
    refine ⟨fun z => absurd (show W 0 0 ≤ 0 from z) (by rw [e]; decide +kernel), fun _ => ?_⟩
    exact q0 hg W hM
theorem g_partBy {g K : Nat} {P : Nat → Bool} (hB : BD (σ 1) n nc ns nd) (hK : K = sN P n) (g1 : 1 ≤ g) (g2 : g ≤ 6) (hq : Q (.inl (some (.int (nI (gA (σ 1) P n g))))) sh_10 σ) : mD (d + 2) 190 [.ref 0, .int (nI K), .int (nI g)] sh_10 σ Q := by
  have hn := hB.1.2
  have h2n : 2 ^ n ≤ 128 := Nat.pow_le_pow_right (n := 2) (by omega) hn
  have hKl := sN_lt (P := P) n
  rw [← hK] at hKl
  refine ⟨rfl, fun X hX => ?_⟩
  have inn : ∀ v v3, v < 10 → (X 66 [some (.ref 0), some (.int (nI K)), some (.int (nI g)), some (.int v3), some (.int (nI v)), some (.int (nI (pBn (σ 1) P g v n))), none] [] sh_10 σ 0 0) → ∀ j s, n - s = j → s ≤ n → X 18 [some (.ref 0), some (.int (nI K)), some (.int (nI g)), some (.int v3), some (.int (nI v)), some (.int (nI (pBn (σ 1) P g v s))), some (.int (nI s))] [] sh_10 σ 0 0 := by
    intro v v3 hv hk j
    induction j with
    | zero =>
      intro s hj hs
      have es : s = n := by omega
      subst es
      refine hX _ _ _ _ _ _ _ ?_
      refine ⟨vp_in_nI (n := 3) (by omega) (by omega), ?_⟩
      refine b_ge rfl hB.1.1 (by omega) (by omega) (fun _ => ?_) (fun h => by omega)
      exact hk
    | succ j ih =>
      intro s hj hs
      have h9 := ih (s + 1) (by omega) (by omega)
      have hbi := sN_bit (P := P) (i := s) n
      rw [decide_eq_true (show s < n by omega), Bool.true_and, ← hK] at hbi
      have hbs := bit_is K (by omega) s (by omega)
      rw [hbi] at hbs
      have hd : pBn (σ 1) P g v (s + 1) = if (P s && decide (σ 1 (22 + 9 * s + g) = nI v)) = true then pBn (σ 1) P g v s + 1 else pBn (σ 1) P g v s := rfl
      have p57 : ∀ e, pBn (σ 1) P g v (s + 1) = pBn (σ 1) P g v s + e → X 57 [some (.ref 0), some (.int (nI K)), some (.int (nI g)), some (.int v3), some (.int (nI v)), none, some (.int (nI s))] [.int (nI e), .int (nI (pBn (σ 1) P g v s))] sh_10 σ 0 0 := by
        intro e hd
        refine hX _ _ _ _ _ _ _ ?_
        rw [hd, ← nI_add, ← nI_1 s] at h9
        exact h9
      refine hX _ _ _ _ _ _ _ ?_
      refine ⟨vp_in_nI (n := 3) (by omega) (by omega), ?_⟩
      refine b_ge rfl hB.1.1 (by omega) (by omega) (fun h => by omega) (fun _ => ?_)
      refine g_isOf (fun h => ?_) (fun h => ?_)
      · have hf : P s = true := by
          refine Classical.byContradiction (fun z => ?_)
          rw [hbs, if_neg z] at h
          exact absurd h (by decide +kernel)
        rw [hf, Bool.true_and] at hd
        refine ⟨fun z => absurd z (by decide +kernel), fun _ => ?_⟩
        refine g_mixOf (by omega) g1 (by omega) ?_
        refine ⟨fun h2 => ?_, fun h2 => ?_⟩
        · have h2 : ¬ σ 1 (22 + 9 * s + g) = nI v := h2
          rw [if_neg (by rw [decide_eq_true_iff]; exact h2)] at hd
          refine hX _ _ _ _ _ _ _ ?_
          exact p57 0 hd
        · have h2 : σ 1 (22 + 9 * s + g) = nI v := h2
          rw [if_pos (by rw [decide_eq_true_iff]; exact h2)] at hd
          exact p57 1 hd
      · have hf : ¬ P s = true := fun z => h (by rw [hbs, if_pos z])
        rw [if_neg (fun z => hf (Bool.and_eq_true _ _ ▸ z).1)] at hd
        refine ⟨fun _ => ?_, fun z => absurd rfl z⟩
        refine hX _ _ _ _ _ _ _ ?_
        exact p57 0 hd
  have loop : ∀ j v, 10 - v = j → v ≤ 10 → X 5 [some (.ref 0), some (.int (nI K)), some (.int (nI g)), some (.int (nI (gM (fun v => pBn (σ 1) P g v n) v))), some (.int (nI v)), none, none] [] sh_10 σ 0 0 := by
    intro j
    induction j with
    | zero =>
      intro v hj hv
      have ev : v = 10 := by omega
      subst ev
      refine hX _ _ _ _ _ _ _ ?_
      refine b_ge rfl (b := 10) rfl (by omega) (by omega) (fun _ => ?_) (fun h => by omega)
      refine hX _ _ _ _ _ _ _ ?_
      exact hq
    | succ j ih =>
      intro v hj hv
      have h9 := ih (v + 1) (by omega) (by omega)
      have hpl := pBn_le (m := σ 1) (P := P) (g := g) (v := v) n
      have hgl := gM_le (F := fun v => pBn (σ 1) P g v n) (b := 7) v (fun i _ => by have := pBn_le (m := σ 1) (P := P) (g := g) (v := i) n; show pBn (σ 1) P g i n ≤ 7; omega)
      refine hX _ _ _ _ _ _ _ ?_
      refine b_ge rfl (b := 10) rfl (by omega) (by omega) (fun h => by omega) (fun _ => ?_)
      refine inn v _ (by omega) ?_ _ 0 rfl (Nat.zero_le _)
      refine hX _ _ _ _ _ _ _ ?_
      refine g_greater ?_
      rw [gM, ← sMax_nI (by omega) (by omega), ← nI_1 v] at h9
      exact h9
  refine hX _ _ _ _ _ _ _ ?_
  exact loop _ 0 rfl (by omega)
theorem g_ask {t : Nat} (hB : BD (σ 1) n nc ns nd) (h8 : σ 0 8 = nI t) (ht : t ≤ 400) (hb : ∀ k, k < t → σ 5 k = nI (B k) ∧ B k < 256) (q1 : gdR B t 9 → ∀ σ', MR σ (nI 0) σ' → Q (.inl (some (.int (sAs (σ 1) (fiB (σ 1) B (t / 2)) n)))) sh_10 σ') (q0 : ¬ gdR B t 9 → ∀ σ', MR σ (nI 1) σ' → Q (.inl (some (.int (nI 0)))) sh_10 σ') : mD (d + 4) 191 [.ref 0] sh_10 σ Q := by
  have hn := hB.1.2
  have h2n : 2 ^ n ≤ 128 := Nat.pow_le_pow_right (n := 2) (by omega) hn
  refine ⟨rfl, fun X hX => ?_⟩
  refine hX _ _ _ _ _ _ _ ?_
  refine g_hears (B := B) hB h8 ht hb (fun hg W hM hw => ?_) (fun hg W hM => ?_)
  · have e := hM.2.2.2.2.1
    have hq := q1 hg W hM
    generalize hP : fiB (σ 1) B (t / 2) = P at hq
    have hK := sN_lt (P := P) n
    have hpl := pb_le (sN P n) (by omega)
    have hBW : BD (W 1) n nc ns nd := by rw [hM.1]; exact hB
    rw [sSet_nI n hn]
    unfold sAs at hq
    have hg1 := gA_le (m := σ 1) (P := P) (n := n) (g := 1)
    have loop : ¬ pb (sN P n) 7 < 2 → ∀ j k, 6 - k = j → k ≤ 6 → X 23 [some (.ref 0), some (.int (nI (sN P n))), some (.int (oM (-(nI 1)) (aF (gA (σ 1) P n) 2000000000 k).1)), some (.int (nI (aF (gA (σ 1) P n) 2000000000 k).2)), some (.int (nI (k + 1))), none] [] sh_10 W 0 0 := by
      intro h2 j
      rw [if_neg h2] at hq
      induction j with
      | zero =>
        intro k hj hk
        have ek : k = 6 := by omega
        subst ek
        refine hX _ _ _ _ _ _ _ ?_
        refine b_gt rfl (b := 6) rfl (by omega) (by omega) (fun _ => ?_) (fun h => by omega)
        refine hX _ _ _ _ _ _ _ ?_
        rw [← (aF_eq (G := gA (σ 1) P n) (l0 := 8) (l1 := 2000000000) (by omega) (by omega) 5).1]
        exact hq
      | succ j ih =>
        intro k hj hk
        have h9 := ih (k + 1) (by omega) (by omega)
        have hgk := gA_le (m := σ 1) (P := P) (n := n) (g := k + 1)
        have hal := aF_le (G := gA (σ 1) P n) (l0 := 2000000000) k
        have hd : aF (gA (σ 1) P n) 2000000000 (k + 1) = if gA (σ 1) P n (k + 1) < (aF (gA (σ 1) P n) 2000000000 k).2 then (some (k + 1), gA (σ 1) P n (k + 1)) else aF (gA (σ 1) P n) 2000000000 k := rfl
        refine hX _ _ _ _ _ _ _ ?_
        refine b_gt rfl (b := 6) rfl (by omega) (by omega) (fun h => by omega) (fun _ => ?_)
        refine g_bits rfl (by omega) ?_
        refine b_le rfl (b := 1) rfl (by omega) (by omega) (fun h => by omega) (fun _ => ?_)
        refine g_partBy (P := P) hBW rfl (by omega) (by omega) ?_
        rw [hM.1]
        refine b_lt rfl rfl (by omega) (by omega) (fun h => ?_) (fun h => ?_)
        · rw [if_pos h] at hd
          refine hX _ _ _ _ _ _ _ ?_
          refine hX _ _ _ _ _ _ _ ?_
          rw [hd, ← nI_1 (k + 1)] at h9
          exact h9
        · rw [if_neg (by omega)] at hd
          refine hX _ _ _ _ _ _ _ ?_
          rw [hd, ← nI_1 (k + 1)] at h9
          exact h9
    refine ⟨fun _ => ?_, fun z => absurd (show W 0 0 ≤ 0 by rw [e]; decide +kernel) z⟩
    refine hX _ _ _ _ _ _ _ ?_
    by_cases h2 : pb (sN P n) 7 < 2
    · rw [if_pos h2] at hq
      refine hX _ _ _ _ _ _ _ ?_
      refine b_gt (a := 1) rfl (b := 6) rfl (by omega) (by omega) (fun h => by omega) (fun _ => ?_)
      refine g_bits rfl (by omega) ?_
      refine b_le rfl (b := 1) rfl (by omega) (by omega) (fun _ => ?_) (fun h => by omega)
      refine hX _ _ _ _ _ _ _ ?_
      exact hq
    · exact loop h2 _ 0 rfl (Nat.zero_le _)
  · have e := hM.2.2.2.2.1
    refine ⟨fun z => absurd (show W 0 0 ≤ 0 from z) (by rw [e]; decide +kernel), fun _ => ?_⟩
    exact q0 hg W hM
end MGU
