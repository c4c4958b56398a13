/-! THE MODEL: words -/
section HASW
variable {d n p dp : Nat} {σ0 σ : mSg} {t : Nat → Int32} {f : Int32} {Q : mPst}
theorem g_has_59 (hT : TX σ0 t n) (hP : PS σ0 σ p f dp) (hp : p ≤ n) (q1 : wB t n (sk t n p) [109, 111, 114, 101] = true → ∀ σ', PS σ0 σ' (sk t n p + 4) f dp → Q (.inl (some (.int (nI 1)))) sh_10 σ') (q0 : ¬ wB t n (sk t n p) [109, 111, 114, 101] = true → ∀ σ', PS σ0 σ' (sk t n p) f dp → Q (.inl (some (.int (nI 0)))) sh_10 σ') : mD (d + 3) 100 [.ref 0, .ref 1059] sh_10 σ Q := by
  have hn := hT.2.1
  have hs : sk t n p ≤ n := sk_le hp
  refine ⟨rfl, fun X hX => ?_⟩
  generalize hb : sk t n p = b at *
  have loop2 : ∀ j i σ1 v, 4 - i = j → i ≤ 4 → PS σ0 σ1 b f dp → v = nI (run kL t n b) → run kL t n b = b + 4 → (∀ k, k < i → t (b + k) = nI (List.getD [109, 111, 114, 101] k 0)) → X 55 [some (.ref 0), some (.ref 1059), some (.int v), some (.int (nI i))] [] sh_10 σ1 0 0 := by
    intro j
    induction j with
    | zero =>
      intro i σ1 v hj hi h1 hv hrun hall
      refine hX _ _ _ _ _ _ _ ?_
      refine b_ge (b := 4) rfl rfl (by omega) (by omega) (fun h => ?_) (fun h => by omega)
      refine hX _ _ _ _ _ _ _ ?_
      refine ⟨Or.inr rfl, q1 (wB_iff.mpr ⟨hrun, fun k hk => hall k (by have hk : k < 4 := hk; omega)⟩) _ ?_⟩
      exact h1.at1 (by rw [hv, hrun])
    | succ j ih =>
      intro i σ1 v hj hi h1 hv hrun hall
      have hi2 : b + i < n := by
        have := run_le (P := kL) (t := t) hs
        omega
      refine hX _ _ _ _ _ _ _ ?_
      refine b_ge (b := 4) rfl rfl (by omega) (by omega) (fun h => by omega) (fun h => ?_)
      refine g_letter hT h1 (k := b + i) (by rw [h1.2.1, nI_add]) hi2 ?_
      refine ⟨vp_in_nI (n := i) (N := 4) h (by omega), ?_⟩
      refine ⟨fun h2 => ?_, fun h2 => ?_⟩
      · have h2 : t (b + i) = nI (List.getD [109, 111, 114, 101] (nI i).toNatClampNeg 0) := h2
        rw [nI_clamp (by omega)] at h2
        refine hX _ _ _ _ _ _ _ ?_
        have h9 := ih (i + 1) σ1 v (by omega) (by omega) h1 hv hrun (fun k hk => by
          by_cases e : k = i
          · rw [e]; exact h2
          · exact hall k (by omega))
        rw [← nI_1 i] at h9
        exact h9
      · have h2 : ¬ t (b + i) = nI (List.getD [109, 111, 114, 101] (nI i).toNatClampNeg 0) := h2
        rw [nI_clamp (by omega)] at h2
        exact ⟨Or.inl rfl, q0 (fun z => h2 ((wB_iff.mp z).2 i h)) σ1 h1⟩
  have mid : ∀ σ1 v, PS σ0 σ1 b f dp → v = nI (run kL t n b) → X 38 [some (.ref 0), some (.ref 1059), some (.int v), none] [] sh_10 σ1 0 0 := by
    intro σ1 v h1 hv
    have hle := run_le (P := kL) (t := t) hs
    have hge := run_ge (P := kL) (t := t) (n := n) (p := b)
    refine hX _ _ _ _ _ _ _ ?_
    refine b_eq (a := run kL t n b - b) (b := 4) (by rw [hv, h1.2.1, nI_sub hge]) rfl (by omega) (by omega) (fun h => ?_) (fun h => ?_)
    · refine hX _ _ _ _ _ _ _ ?_
      exact loop2 _ 0 σ1 v rfl (by omega) h1 hv (by omega) (fun k hk => by omega)
    · exact ⟨Or.inl rfl, q0 (fun z => by have z1 : run kL t n b = b + 4 := (wB_iff.mp z).1; omega) σ1 h1⟩
  have loop1 : ∀ j k σ1, n - k = j → b ≤ k → k ≤ n → PS σ0 σ1 b f dp → run kL t n b = run kL t n k → X 9 [some (.ref 0), some (.ref 1059), some (.int (nI k)), none] [] sh_10 σ1 0 0 := by
    intro j
    induction j with
    | zero =>
      intro k σ1 hj hk hk2 h1 hrun
      refine hX _ _ _ _ _ _ _ ?_
      refine b_ge rfl (h1.en hT) (by omega) (by omega) (fun h => ?_) (fun h => by omega)
      exact mid σ1 _ h1 (by rw [hrun, run_stop (by omega)])
    | succ j ih =>
      intro k σ1 hj hk hk2 h1 hrun
      refine hX _ _ _ _ _ _ _ ?_
      refine b_ge rfl (h1.en hT) (by omega) (by omega) (fun h => by omega) (fun h => ?_)
      refine g_letter hT h1 rfl h ?_
      refine g_isIn (fun h2 => ?_) (fun h2 => ?_)
      · refine ⟨fun h3 => absurd h3 (by decide +kernel), fun _ => ?_⟩
        have h9 := ih (k + 1) σ1 (by omega) (by omega) (by omega) h1 (by rw [hrun]; exact run_step h (kL_iff.mpr h2))
        rw [← nI_1 k] at h9
        exact h9
      · refine ⟨fun _ => ?_, fun h3 => absurd rfl h3⟩
        exact mid σ1 _ h1 (by rw [hrun, run_stop (fun z => h2 (kL_iff.mp z.2))])
  refine hX _ _ _ _ _ _ _ ?_
  refine g_skip hT hP (by omega) ?_
  intro σ1 h1
  rw [hb] at h1
  have h9 := loop1 _ b σ1 rfl (Nat.le_refl _) hs h1 rfl
  rw [← h1.2.1] at h9
  exact h9
theorem g_has_60 (hT : TX σ0 t n) (hP : PS σ0 σ p f dp) (hp : p ≤ n) (q1 : wB t n (sk t n p) [108, 101, 115, 115] = true → ∀ σ', PS σ0 σ' (sk t n p + 4) f dp → Q (.inl (some (.int (nI 1)))) sh_10 σ') (q0 : ¬ wB t n (sk t n p) [108, 101, 115, 115] = true → ∀ σ', PS σ0 σ' (sk t n p) f dp → Q (.inl (some (.int (nI 0)))) sh_10 σ') : mD (d + 3) 100 [.ref 0, .ref 1060] sh_10 σ Q := by
  have hn := hT.2.1
  have hs : sk t n p ≤ n := sk_le hp
  refine ⟨rfl, fun X hX => ?_⟩
  generalize hb : sk t n p = b at *
  have loop2 : ∀ j i σ1 v, 4 - i = j → i ≤ 4 → PS σ0 σ1 b f dp → v = nI (run kL t n b) → run kL t n b = b + 4 → (∀ k, k < i → t (b + k) = nI (List.getD [108, 101, 115, 115] k 0)) → X 55 [some (.ref 0), some (.ref 1060), some (.int v), some (.int (nI i))] [] sh_10 σ1 0 0 := by
    intro j
    induction j with
    | zero =>
      intro i σ1 v hj hi h1 hv hrun hall
      refine hX _ _ _ _ _ _ _ ?_
      refine b_ge (b := 4) rfl rfl (by omega) (by omega) (fun h => ?_) (fun h => by omega)
      refine hX _ _ _ _ _ _ _ ?_
      refine ⟨Or.inr rfl, q1 (wB_iff.mpr ⟨hrun, fun k hk => hall k (by have hk : k < 4 := hk; omega)⟩) _ ?_⟩
      exact h1.at1 (by rw [hv, hrun])
    | succ j ih =>
      intro i σ1 v hj hi h1 hv hrun hall
      have hi2 : b + i < n := by
        have := run_le (P := kL) (t := t) hs
        omega
      refine hX _ _ _ _ _ _ _ ?_
      refine b_ge (b := 4) rfl rfl (by omega) (by omega) (fun h => by omega) (fun h => ?_)
      refine g_letter hT h1 (k := b + i) (by rw [h1.2.1, nI_add]) hi2 ?_
      refine ⟨vp_in_nI (n := i) (N := 4) h (by omega), ?_⟩
      refine ⟨fun h2 => ?_, fun h2 => ?_⟩
      · have h2 : t (b + i) = nI (List.getD [108, 101, 115, 115] (nI i).toNatClampNeg 0) := h2
        rw [nI_clamp (by omega)] at h2
        refine hX _ _ _ _ _ _ _ ?_
        have h9 := ih (i + 1) σ1 v (by omega) (by omega) h1 hv hrun (fun k hk => by
          by_cases e : k = i
          · rw [e]; exact h2
          · exact hall k (by omega))
        rw [← nI_1 i] at h9
        exact h9
      · have h2 : ¬ t (b + i) = nI (List.getD [108, 101, 115, 115] (nI i).toNatClampNeg 0) := h2
        rw [nI_clamp (by omega)] at h2
        exact ⟨Or.inl rfl, q0 (fun z => h2 ((wB_iff.mp z).2 i h)) σ1 h1⟩
  have mid : ∀ σ1 v, PS σ0 σ1 b f dp → v = nI (run kL t n b) → X 38 [some (.ref 0), some (.ref 1060), some (.int v), none] [] sh_10 σ1 0 0 := by
    intro σ1 v h1 hv
    have hle := run_le (P := kL) (t := t) hs
    have hge := run_ge (P := kL) (t := t) (n := n) (p := b)
    refine hX _ _ _ _ _ _ _ ?_
    refine b_eq (a := run kL t n b - b) (b := 4) (by rw [hv, h1.2.1, nI_sub hge]) rfl (by omega) (by omega) (fun h => ?_) (fun h => ?_)
    · refine hX _ _ _ _ _ _ _ ?_
      exact loop2 _ 0 σ1 v rfl (by omega) h1 hv (by omega) (fun k hk => by omega)
    · exact ⟨Or.inl rfl, q0 (fun z => by have z1 : run kL t n b = b + 4 := (wB_iff.mp z).1; omega) σ1 h1⟩
  have loop1 : ∀ j k σ1, n - k = j → b ≤ k → k ≤ n → PS σ0 σ1 b f dp → run kL t n b = run kL t n k → X 9 [some (.ref 0), some (.ref 1060), some (.int (nI k)), none] [] sh_10 σ1 0 0 := by
    intro j
    induction j with
    | zero =>
      intro k σ1 hj hk hk2 h1 hrun
      refine hX _ _ _ _ _ _ _ ?_
      refine b_ge rfl (h1.en hT) (by omega) (by omega) (fun h => ?_) (fun h => by omega)
      exact mid σ1 _ h1 (by rw [hrun, run_stop (by omega)])
    | succ j ih =>
      intro k σ1 hj hk hk2 h1 hrun
      refine hX _ _ _ _ _ _ _ ?_
      refine b_ge rfl (h1.en hT) (by omega) (by omega) (fun h => by omega) (fun h => ?_)
      refine g_letter hT h1 rfl h ?_
      refine g_isIn (fun h2 => ?_) (fun h2 => ?_)
      · refine ⟨fun h3 => absurd h3 (by decide +kernel), fun _ => ?_⟩
        have h9 := ih (k + 1) σ1 (by omega) (by omega) (by omega) h1 (by rw [hrun]; exact run_step h (kL_iff.mpr h2))
        rw [← nI_1 k] at h9
        exact h9
      · refine ⟨fun _ => ?_, fun h3 => absurd rfl h3⟩
        exact mid σ1 _ h1 (by rw [hrun, run_stop (fun z => h2 (kL_iff.mp z.2))])
  refine hX _ _ _ _ _ _ _ ?_
  refine g_skip hT hP (by omega) ?_
  intro σ1 h1
  rw [hb] at h1
  have h9 := loop1 _ b σ1 rfl (Nat.le_refl _) hs h1 rfl
  rw [← h1.2.1] at h9
  exact h9
theorem g_has_61 (hT : TX σ0 t n) (hP : PS σ0 σ p f dp) (hp : p ≤ n) (q1 : wB t n (sk t n p) [116, 111, 108, 108] = true → ∀ σ', PS σ0 σ' (sk t n p + 4) f dp → Q (.inl (some (.int (nI 1)))) sh_10 σ') (q0 : ¬ wB t n (sk t n p) [116, 111, 108, 108] = true → ∀ σ', PS σ0 σ' (sk t n p) f dp → Q (.inl (some (.int (nI 0)))) sh_10 σ') : mD (d + 3) 100 [.ref 0, .ref 1061] sh_10 σ Q := by
  have hn := hT.2.1
  have hs : sk t n p ≤ n := sk_le hp
  refine ⟨rfl, fun X hX => ?_⟩
  generalize hb : sk t n p = b at *
  have loop2 : ∀ j i σ1 v, 4 - i = j → i ≤ 4 → PS σ0 σ1 b f dp → v = nI (run kL t n b) → run kL t n b = b + 4 → (∀ k, k < i → t (b + k) = nI (List.getD [116, 111, 108, 108] k 0)) → X 55 [some (.ref 0), some (.ref 1061), some (.int v), some (.int (nI i))] [] sh_10 σ1 0 0 := by
    intro j
    induction j with
    | zero =>
      intro i σ1 v hj hi h1 hv hrun hall
      refine hX _ _ _ _ _ _ _ ?_
      refine b_ge (b := 4) rfl rfl (by omega) (by omega) (fun h => ?_) (fun h => by omega)
      refine hX _ _ _ _ _ _ _ ?_
      refine ⟨Or.inr rfl, q1 (wB_iff.mpr ⟨hrun, fun k hk => hall k (by have hk : k < 4 := hk; omega)⟩) _ ?_⟩
      exact h1.at1 (by rw [hv, hrun])
    | succ j ih =>
      intro i σ1 v hj hi h1 hv hrun hall
      have hi2 : b + i < n := by
        have := run_le (P := kL) (t := t) hs
        omega
      refine hX _ _ _ _ _ _ _ ?_
      refine b_ge (b := 4) rfl rfl (by omega) (by omega) (fun h => by omega) (fun h => ?_)
      refine g_letter hT h1 (k := b + i) (by rw [h1.2.1, nI_add]) hi2 ?_
      refine ⟨vp_in_nI (n := i) (N := 4) h (by omega), ?_⟩
      refine ⟨fun h2 => ?_, fun h2 => ?_⟩
      · have h2 : t (b + i) = nI (List.getD [116, 111, 108, 108] (nI i).toNatClampNeg 0) := h2
        rw [nI_clamp (by omega)] at h2
        refine hX _ _ _ _ _ _ _ ?_
        have h9 := ih (i + 1) σ1 v (by omega) (by omega) h1 hv hrun (fun k hk => by
          by_cases e : k = i
          · rw [e]; exact h2
          · exact hall k (by omega))
        rw [← nI_1 i] at h9
        exact h9
      · have h2 : ¬ t (b + i) = nI (List.getD [116, 111, 108, 108] (nI i).toNatClampNeg 0) := h2
        rw [nI_clamp (by omega)] at h2
        exact ⟨Or.inl rfl, q0 (fun z => h2 ((wB_iff.mp z).2 i h)) σ1 h1⟩
  have mid : ∀ σ1 v, PS σ0 σ1 b f dp → v = nI (run kL t n b) → X 38 [some (.ref 0), some (.ref 1061), some (.int v), none] [] sh_10 σ1 0 0 := by
    intro σ1 v h1 hv
    have hle := run_le (P := kL) (t := t) hs
    have hge := run_ge (P := kL) (t := t) (n := n) (p := b)
    refine hX _ _ _ _ _ _ _ ?_
    refine b_eq (a := run kL t n b - b) (b := 4) (by rw [hv, h1.2.1, nI_sub hge]) rfl (by omega) (by omega) (fun h => ?_) (fun h => ?_)
    · refine hX _ _ _ _ _ _ _ ?_
      exact loop2 _ 0 σ1 v rfl (by omega) h1 hv (by omega) (fun k hk => by omega)
    · exact ⟨Or.inl rfl, q0 (fun z => by have z1 : run kL t n b = b + 4 := (wB_iff.mp z).1; omega) σ1 h1⟩
  have loop1 : ∀ j k σ1, n - k = j → b ≤ k → k ≤ n → PS σ0 σ1 b f dp → run kL t n b = run kL t n k → X 9 [some (.ref 0), some (.ref 1061), some (.int (nI k)), none] [] sh_10 σ1 0 0 := by
    intro j
    induction j with
    | zero =>
      intro k σ1 hj hk hk2 h1 hrun
      refine hX _ _ _ _ _ _ _ ?_
      refine b_ge rfl (h1.en hT) (by omega) (by omega) (fun h => ?_) (fun h => by omega)
      exact mid σ1 _ h1 (by rw [hrun, run_stop (by omega)])
    | succ j ih =>
      intro k σ1 hj hk hk2 h1 hrun
      refine hX _ _ _ _ _ _ _ ?_
      refine b_ge rfl (h1.en hT) (by omega) (by omega) (fun h => by omega) (fun h => ?_)
      refine g_letter hT h1 rfl h ?_
      refine g_isIn (fun h2 => ?_) (fun h2 => ?_)
      · refine ⟨fun h3 => absurd h3 (by decide +kernel), fun _ => ?_⟩
        have h9 := ih (k + 1) σ1 (by omega) (by omega) (by omega) h1 (by rw [hrun]; exact run_step h (kL_iff.mpr h2))
        rw [← nI_1 k] at h9
        exact h9
      · refine ⟨fun _ => ?_, fun h3 => absurd rfl h3⟩
        exact mid σ1 _ h1 (by rw [hrun, run_stop (fun z => h2 (kL_iff.mp z.2))])
  refine hX _ _ _ _ _ _ _ ?_
  refine g_skip hT hP (by omega) ?_
  intro σ1 h1
  rw [hb] at h1
  have h9 := loop1 _ b σ1 rfl (Nat.le_refl _) hs h1 rfl
  rw [← h1.2.1] at h9
  exact h9
theorem g_has_62 (hT : TX σ0 t n) (hP : PS σ0 σ p f dp) (hp : p ≤ n) (q1 : wB t n (sk t n p) [105, 102] = true → ∀ σ', PS σ0 σ' (sk t n p + 2) f dp → Q (.inl (some (.int (nI 1)))) sh_10 σ') (q0 : ¬ wB t n (sk t n p) [105, 102] = true → ∀ σ', PS σ0 σ' (sk t n p) f dp → Q (.inl (some (.int (nI 0)))) sh_10 σ') : mD (d + 3) 100 [.ref 0, .ref 1062] sh_10 σ Q := by
  have hn := hT.2.1
  have hs : sk t n p ≤ n := sk_le hp
  refine ⟨rfl, fun X hX => ?_⟩
  generalize hb : sk t n p = b at *
  have loop2 : ∀ j i σ1 v, 2 - i = j → i ≤ 2 → PS σ0 σ1 b f dp → v = nI (run kL t n b) → run kL t n b = b + 2 → (∀ k, k < i → t (b + k) = nI (List.getD [105, 102] k 0)) → X 55 [some (.ref 0), some (.ref 1062), some (.int v), some (.int (nI i))] [] sh_10 σ1 0 0 := by
    intro j
    induction j with
    | zero =>
      intro i σ1 v hj hi h1 hv hrun hall
      refine hX _ _ _ _ _ _ _ ?_
      refine b_ge (b := 2) rfl rfl (by omega) (by omega) (fun h => ?_) (fun h => by omega)
      refine hX _ _ _ _ _ _ _ ?_
      refine ⟨Or.inr rfl, q1 (wB_iff.mpr ⟨hrun, fun k hk => hall k (by have hk : k < 2 := hk; omega)⟩) _ ?_⟩
      exact h1.at1 (by rw [hv, hrun])
    | succ j ih =>
      intro i σ1 v hj hi h1 hv hrun hall
      have hi2 : b + i < n := by
        have := run_le (P := kL) (t := t) hs
        omega
      refine hX _ _ _ _ _ _ _ ?_
      refine b_ge (b := 2) rfl rfl (by omega) (by omega) (fun h => by omega) (fun h => ?_)
      refine g_letter hT h1 (k := b + i) (by rw [h1.2.1, nI_add]) hi2 ?_
      refine ⟨vp_in_nI (n := i) (N := 2) h (by omega), ?_⟩
      refine ⟨fun h2 => ?_, fun h2 => ?_⟩
      · have h2 : t (b + i) = nI (List.getD [105, 102] (nI i).toNatClampNeg 0) := h2
        rw [nI_clamp (by omega)] at h2
        refine hX _ _ _ _ _ _ _ ?_
        have h9 := ih (i + 1) σ1 v (by omega) (by omega) h1 hv hrun (fun k hk => by
          by_cases e : k = i
          · rw [e]; exact h2
          · exact hall k (by omega))
        rw [← nI_1 i] at h9
        exact h9
      · have h2 : ¬ t (b + i) = nI (List.getD [105, 102] (nI i).toNatClampNeg 0) := h2
        rw [nI_clamp (by omega)] at h2
        exact ⟨Or.inl rfl, q0 (fun z => h2 ((wB_iff.mp z).2 i h)) σ1 h1⟩
  have mid : ∀ σ1 v, PS σ0 σ1 b f dp → v = nI (run kL t n b) → X 38 [some (.ref 0), some (.ref 1062), some (.int v), none] [] sh_10 σ1 0 0 := by
    intro σ1 v h1 hv
    have hle := run_le (P := kL) (t := t) hs
    have hge := run_ge (P := kL) (t := t) (n := n) (p := b)
    refine hX _ _ _ _ _ _ _ ?_
    refine b_eq (a := run kL t n b - b) (b := 2) (by rw [hv, h1.2.1, nI_sub hge]) rfl (by omega) (by omega) (fun h => ?_) (fun h => ?_)
    · refine hX _ _ _ _ _ _ _ ?_
      exact loop2 _ 0 σ1 v rfl (by omega) h1 hv (by omega) (fun k hk => by omega)
    · exact ⟨Or.inl rfl, q0 (fun z => by have z1 : run kL t n b = b + 2 := (wB_iff.mp z).1; omega) σ1 h1⟩
  have loop1 : ∀ j k σ1, n - k = j → b ≤ k → k ≤ n → PS σ0 σ1 b f dp → run kL t n b = run kL t n k → X 9 [some (.ref 0), some (.ref 1062), some (.int (nI k)), none] [] sh_10 σ1 0 0 := by
    intro j
    induction j with
    | zero =>
      intro k σ1 hj hk hk2 h1 hrun
      refine hX _ _ _ _ _ _ _ ?_
      refine b_ge rfl (h1.en hT) (by omega) (by omega) (fun h => ?_) (fun h => by omega)
      exact mid σ1 _ h1 (by rw [hrun, run_stop (by omega)])
    | succ j ih =>
      intro k σ1 hj hk hk2 h1 hrun
      refine hX _ _ _ _ _ _ _ ?_
      refine b_ge rfl (h1.en hT) (by omega) (by omega) (fun h => by omega) (fun h => ?_)
      refine g_letter hT h1 rfl h ?_
      refine g_isIn (fun h2 => ?_) (fun h2 => ?_)
      · refine ⟨fun h3 => absurd h3 (by decide +kernel), fun _ => ?_⟩
        have h9 := ih (k + 1) σ1 (by omega) (by omega) (by omega) h1 (by rw [hrun]; exact run_step h (kL_iff.mpr h2))
        rw [← nI_1 k] at h9
        exact h9
      · refine ⟨fun _ => ?_, fun h3 => absurd rfl h3⟩
        exact mid σ1 _ h1 (by rw [hrun, run_stop (fun z => h2 (kL_iff.mp z.2))])
  refine hX _ _ _ _ _ _ _ ?_
  refine g_skip hT hP (by omega) ?_
  intro σ1 h1
  rw [hb] at h1
  have h9 := loop1 _ b σ1 rfl (Nat.le_refl _) hs h1 rfl
  rw [← h1.2.1] at h9
  exact h9
theorem g_has_63 (hT : TX σ0 t n) (hP : PS σ0 σ p f dp) (hp : p ≤ n) (q1 : wB t n (sk t n p) [110, 111, 116] = true → ∀ σ', PS σ0 σ' (sk t n p + 3) f dp → Q (.inl (some (.int (nI 1)))) sh_10 σ') (q0 : ¬ wB t n (sk t n p) [110, 111, 116] = true → ∀ σ', PS σ0 σ' (sk t n p) f dp → Q (.inl (some (.int (nI 0)))) sh_10 σ') : mD (d + 3) 100 [.ref 0, .ref 1063] sh_10 σ Q := by
  have hn := hT.2.1
  have hs : sk t n p ≤ n := sk_le hp
  refine ⟨rfl, fun X hX => ?_⟩
  generalize hb : sk t n p = b at *
  have loop2 : ∀ j i σ1 v, 3 - i = j → i ≤ 3 → PS σ0 σ1 b f dp → v = nI (run kL t n b) → run kL t n b = b + 3 → (∀ k, k < i → t (b + k) = nI (List.getD [110, 111, 116] k 0)) → X 55 [some (.ref 0), some (.ref 1063), some (.int v), some (.int (nI i))] [] sh_10 σ1 0 0 := by
    intro j
    induction j with
    | zero =>
      intro i σ1 v hj hi h1 hv hrun hall
      refine hX _ _ _ _ _ _ _ ?_
      refine b_ge (b := 3) rfl rfl (by omega) (by omega) (fun h => ?_) (fun h => by omega)
      refine hX _ _ _ _ _ _ _ ?_
      refine ⟨Or.inr rfl, q1 (wB_iff.mpr ⟨hrun, fun k hk => hall k (by have hk : k < 3 := hk; omega)⟩) _ ?_⟩
      exact h1.at1 (by rw [hv, hrun])
    | succ j ih =>
      intro i σ1 v hj hi h1 hv hrun hall
      have hi2 : b + i < n := by
        have := run_le (P := kL) (t := t) hs
        omega
      refine hX _ _ _ _ _ _ _ ?_
      refine b_ge (b := 3) rfl rfl (by omega) (by omega) (fun h => by omega) (fun h => ?_)
      refine g_letter hT h1 (k := b + i) (by rw [h1.2.1, nI_add]) hi2 ?_
      refine ⟨vp_in_nI (n := i) (N := 3) h (by omega), ?_⟩
      refine ⟨fun h2 => ?_, fun h2 => ?_⟩
      · have h2 : t (b + i) = nI (List.getD [110, 111, 116] (nI i).toNatClampNeg 0) := h2
        rw [nI_clamp (by omega)] at h2
        refine hX _ _ _ _ _ _ _ ?_
        have h9 := ih (i + 1) σ1 v (by omega) (by omega) h1 hv hrun (fun k hk => by
          by_cases e : k = i
          · rw [e]; exact h2
          · exact hall k (by omega))
        rw [← nI_1 i] at h9
        exact h9
      · have h2 : ¬ t (b + i) = nI (List.getD [110, 111, 116] (nI i).toNatClampNeg 0) := h2
        rw [nI_clamp (by omega)] at h2
        exact ⟨Or.inl rfl, q0 (fun z => h2 ((wB_iff.mp z).2 i h)) σ1 h1⟩
  have mid : ∀ σ1 v, PS σ0 σ1 b f dp → v = nI (run kL t n b) → X 38 [some (.ref 0), some (.ref 1063), some (.int v), none] [] sh_10 σ1 0 0 := by
    intro σ1 v h1 hv
    have hle := run_le (P := kL) (t := t) hs
    have hge := run_ge (P := kL) (t := t) (n := n) (p := b)
    refine hX _ _ _ _ _ _ _ ?_
    refine b_eq (a := run kL t n b - b) (b := 3) (by rw [hv, h1.2.1, nI_sub hge]) rfl (by omega) (by omega) (fun h => ?_) (fun h => ?_)
    · refine hX _ _ _ _ _ _ _ ?_
      exact loop2 _ 0 σ1 v rfl (by omega) h1 hv (by omega) (fun k hk => by omega)
    · exact ⟨Or.inl rfl, q0 (fun z => by have z1 : run kL t n b = b + 3 := (wB_iff.mp z).1; omega) σ1 h1⟩
  have loop1 : ∀ j k σ1, n - k = j → b ≤ k → k ≤ n → PS σ0 σ1 b f dp → run kL t n b = run kL t n k → X 9 [some (.ref 0), some (.ref 1063), some (.int (nI k)), none] [] sh_10 σ1 0 0 := by
    intro j
    induction j with
    | zero =>
      intro k σ1 hj hk hk2 h1 hrun
      refine hX _ _ _ _ _ _ _ ?_
      refine b_ge rfl (h1.en hT) (by omega) (by omega) (fun h => ?_) (fun h => by omega)
      exact mid σ1 _ h1 (by rw [hrun, run_stop (by omega)])
    | succ j ih =>
      intro k σ1 hj hk hk2 h1 hrun
      refine hX _ _ _ _ _ _ _ ?_
      refine b_ge rfl (h1.en hT) (by omega) (by omega) (fun h => by omega) (fun h => ?_)
      refine g_letter hT h1 rfl h ?_
      refine g_isIn (fun h2 => ?_) (fun h2 => ?_)
      · refine ⟨fun h3 => absurd h3 (by decide +kernel), fun _ => ?_⟩
        have h9 := ih (k + 1) σ1 (by omega) (by omega) (by omega) h1 (by rw [hrun]; exact run_step h (kL_iff.mpr h2))
        rw [← nI_1 k] at h9
        exact h9
      · refine ⟨fun _ => ?_, fun h3 => absurd rfl h3⟩
        exact mid σ1 _ h1 (by rw [hrun, run_stop (fun z => h2 (kL_iff.mp z.2))])
  refine hX _ _ _ _ _ _ _ ?_
  refine g_skip hT hP (by omega) ?_
  intro σ1 h1
  rw [hb] at h1
  have h9 := loop1 _ b σ1 rfl (Nat.le_refl _) hs h1 rfl
  rw [← h1.2.1] at h9
  exact h9
theorem g_has_64 (hT : TX σ0 t n) (hP : PS σ0 σ p f dp) (hp : p ≤ n) (q1 : wB t n (sk t n p) [115, 109, 111, 107, 101] = true → ∀ σ', PS σ0 σ' (sk t n p + 5) f dp → Q (.inl (some (.int (nI 1)))) sh_10 σ') (q0 : ¬ wB t n (sk t n p) [115, 109, 111, 107, 101] = true → ∀ σ', PS σ0 σ' (sk t n p) f dp → Q (.inl (some (.int (nI 0)))) sh_10 σ') : mD (d + 3) 100 [.ref 0, .ref 1064] sh_10 σ Q := by
  have hn := hT.2.1
  have hs : sk t n p ≤ n := sk_le hp
  refine ⟨rfl, fun X hX => ?_⟩
  generalize hb : sk t n p = b at *
  have loop2 : ∀ j i σ1 v, 5 - i = j → i ≤ 5 → PS σ0 σ1 b f dp → v = nI (run kL t n b) → run kL t n b = b + 5 → (∀ k, k < i → t (b + k) = nI (List.getD [115, 109, 111, 107, 101] k 0)) → X 55 [some (.ref 0), some (.ref 1064), some (.int v), some (.int (nI i))] [] sh_10 σ1 0 0 := by
    intro j
    induction j with
    | zero =>
      intro i σ1 v hj hi h1 hv hrun hall
      refine hX _ _ _ _ _ _ _ ?_
      refine b_ge (b := 5) rfl rfl (by omega) (by omega) (fun h => ?_) (fun h => by omega)
      refine hX _ _ _ _ _ _ _ ?_
      refine ⟨Or.inr rfl, q1 (wB_iff.mpr ⟨hrun, fun k hk => hall k (by have hk : k < 5 := hk; omega)⟩) _ ?_⟩
      exact h1.at1 (by rw [hv, hrun])
    | succ j ih =>
      intro i σ1 v hj hi h1 hv hrun hall
      have hi2 : b + i < n := by
        have := run_le (P := kL) (t := t) hs
        omega
      refine hX _ _ _ _ _ _ _ ?_
      refine b_ge (b := 5) rfl rfl (by omega) (by omega) (fun h => by omega) (fun h => ?_)
      refine g_letter hT h1 (k := b + i) (by rw [h1.2.1, nI_add]) hi2 ?_
      refine ⟨vp_in_nI (n := i) (N := 5) h (by omega), ?_⟩
      refine ⟨fun h2 => ?_, fun h2 => ?_⟩
      · have h2 : t (b + i) = nI (List.getD [115, 109, 111, 107, 101] (nI i).toNatClampNeg 0) := h2
        rw [nI_clamp (by omega)] at h2
        refine hX _ _ _ _ _ _ _ ?_
        have h9 := ih (i + 1) σ1 v (by omega) (by omega) h1 hv hrun (fun k hk => by
          by_cases e : k = i
          · rw [e]; exact h2
          · exact hall k (by omega))
        rw [← nI_1 i] at h9
        exact h9
      · have h2 : ¬ t (b + i) = nI (List.getD [115, 109, 111, 107, 101] (nI i).toNatClampNeg 0) := h2
        rw [nI_clamp (by omega)] at h2
        exact ⟨Or.inl rfl, q0 (fun z => h2 ((wB_iff.mp z).2 i h)) σ1 h1⟩
  have mid : ∀ σ1 v, PS σ0 σ1 b f dp → v = nI (run kL t n b) → X 38 [some (.ref 0), some (.ref 1064), some (.int v), none] [] sh_10 σ1 0 0 := by
    intro σ1 v h1 hv
    have hle := run_le (P := kL) (t := t) hs
    have hge := run_ge (P := kL) (t := t) (n := n) (p := b)
    refine hX _ _ _ _ _ _ _ ?_
    refine b_eq (a := run kL t n b - b) (b := 5) (by rw [hv, h1.2.1, nI_sub hge]) rfl (by omega) (by omega) (fun h => ?_) (fun h => ?_)
    · refine hX _ _ _ _ _ _ _ ?_
      exact loop2 _ 0 σ1 v rfl (by omega) h1 hv (by omega) (fun k hk => by omega)
    · exact ⟨Or.inl rfl, q0 (fun z => by have z1 : run kL t n b = b + 5 := (wB_iff.mp z).1; omega) σ1 h1⟩
  have loop1 : ∀ j k σ1, n - k = j → b ≤ k → k ≤ n → PS σ0 σ1 b f dp → run kL t n b = run kL t n k → X 9 [some (.ref 0), some (.ref 1064), some (.int (nI k)), none] [] sh_10 σ1 0 0 := by
    intro j
    induction j with
    | zero =>
      intro k σ1 hj hk hk2 h1 hrun
      refine hX _ _ _ _ _ _ _ ?_
      refine b_ge rfl (h1.en hT) (by omega) (by omega) (fun h => ?_) (fun h => by omega)
      exact mid σ1 _ h1 (by rw [hrun, run_stop (by omega)])
    | succ j ih =>
      intro k σ1 hj hk hk2 h1 hrun
      refine hX _ _ _ _ _ _ _ ?_
      refine b_ge rfl (h1.en hT) (by omega) (by omega) (fun h => by omega) (fun h => ?_)
      refine g_letter hT h1 rfl h ?_
      refine g_isIn (fun h2 => ?_) (fun h2 => ?_)
      · refine ⟨fun h3 => absurd h3 (by decide +kernel), fun _ => ?_⟩
        have h9 := ih (k + 1) σ1 (by omega) (by omega) (by omega) h1 (by rw [hrun]; exact run_step h (kL_iff.mpr h2))
        rw [← nI_1 k] at h9
        exact h9
      · refine ⟨fun _ => ?_, fun h3 => absurd rfl h3⟩
        exact mid σ1 _ h1 (by rw [hrun, run_stop (fun z => h2 (kL_iff.mp z.2))])
  refine hX _ _ _ _ _ _ _ ?_
  refine g_skip hT hP (by omega) ?_
  intro σ1 h1
  rw [hb] at h1
  have h9 := loop1 _ b σ1 rfl (Nat.le_refl _) hs h1 rfl
  rw [← h1.2.1] at h9
  exact h9
theorem g_has_65 (hT : TX σ0 t n) (hP : PS σ0 σ p f dp) (hp : p ≤ n) (q1 : wB t n (sk t n p) [102, 97, 114] = true → ∀ σ', PS σ0 σ' (sk t n p + 3) f dp → Q (.inl (some (.int (nI 1)))) sh_10 σ') (q0 : ¬ wB t n (sk t n p) [102, 97, 114] = true → ∀ σ', PS σ0 σ' (sk t n p) f dp → Q (.inl (some (.int (nI 0)))) sh_10 σ') : mD (d + 3) 100 [.ref 0, .ref 1065] sh_10 σ Q := by
  have hn := hT.2.1
  have hs : sk t n p ≤ n := sk_le hp
  refine ⟨rfl, fun X hX => ?_⟩
  generalize hb : sk t n p = b at *
  have loop2 : ∀ j i σ1 v, 3 - i = j → i ≤ 3 → PS σ0 σ1 b f dp → v = nI (run kL t n b) → run kL t n b = b + 3 → (∀ k, k < i → t (b + k) = nI (List.getD [102, 97, 114] k 0)) → X 55 [some (.ref 0), some (.ref 1065), some (.int v), some (.int (nI i))] [] sh_10 σ1 0 0 := by
    intro j
    induction j with
    | zero =>
      intro i σ1 v hj hi h1 hv hrun hall
      refine hX _ _ _ _ _ _ _ ?_
      refine b_ge (b := 3) rfl rfl (by omega) (by omega) (fun h => ?_) (fun h => by omega)
      refine hX _ _ _ _ _ _ _ ?_
      refine ⟨Or.inr rfl, q1 (wB_iff.mpr ⟨hrun, fun k hk => hall k (by have hk : k < 3 := hk; omega)⟩) _ ?_⟩
      exact h1.at1 (by rw [hv, hrun])
    | succ j ih =>
      intro i σ1 v hj hi h1 hv hrun hall
      have hi2 : b + i < n := by
        have := run_le (P := kL) (t := t) hs
        omega
      refine hX _ _ _ _ _ _ _ ?_
      refine b_ge (b := 3) rfl rfl (by omega) (by omega) (fun h => by omega) (fun h => ?_)
      refine g_letter hT h1 (k := b + i) (by rw [h1.2.1, nI_add]) hi2 ?_
      refine ⟨vp_in_nI (n := i) (N := 3) h (by omega), ?_⟩
      refine ⟨fun h2 => ?_, fun h2 => ?_⟩
      · have h2 : t (b + i) = nI (List.getD [102, 97, 114] (nI i).toNatClampNeg 0) := h2
        rw [nI_clamp (by omega)] at h2
        refine hX _ _ _ _ _ _ _ ?_
        have h9 := ih (i + 1) σ1 v (by omega) (by omega) h1 hv hrun (fun k hk => by
          by_cases e : k = i
          · rw [e]; exact h2
          · exact hall k (by omega))
        rw [← nI_1 i] at h9
        exact h9
      · have h2 : ¬ t (b + i) = nI (List.getD [102, 97, 114] (nI i).toNatClampNeg 0) := h2
        rw [nI_clamp (by omega)] at h2
        exact ⟨Or.inl rfl, q0 (fun z => h2 ((wB_iff.mp z).2 i h)) σ1 h1⟩
  have mid : ∀ σ1 v, PS σ0 σ1 b f dp → v = nI (run kL t n b) → X 38 [some (.ref 0), some (.ref 1065), some (.int v), none] [] sh_10 σ1 0 0 := by
    intro σ1 v h1 hv
    have hle := run_le (P := kL) (t := t) hs
    have hge := run_ge (P := kL) (t := t) (n := n) (p := b)
    refine hX _ _ _ _ _ _ _ ?_
    refine b_eq (a := run kL t n b - b) (b := 3) (by rw [hv, h1.2.1, nI_sub hge]) rfl (by omega) (by omega) (fun h => ?_) (fun h => ?_)
    · refine hX _ _ _ _ _ _ _ ?_
      exact loop2 _ 0 σ1 v rfl (by omega) h1 hv (by omega) (fun k hk => by omega)
    · exact ⟨Or.inl rfl, q0 (fun z => by have z1 : run kL t n b = b + 3 := (wB_iff.mp z).1; omega) σ1 h1⟩
  have loop1 : ∀ j k σ1, n - k = j → b ≤ k → k ≤ n → PS σ0 σ1 b f dp → run kL t n b = run kL t n k → X 9 [some (.ref 0), some (.ref 1065), some (.int (nI k)), none] [] sh_10 σ1 0 0 := by
    intro j
    induction j with
    | zero =>
      intro k σ1 hj hk hk2 h1 hrun
      refine hX _ _ _ _ _ _ _ ?_
      refine b_ge rfl (h1.en hT) (by omega) (by omega) (fun h => ?_) (fun h => by omega)
      exact mid σ1 _ h1 (by rw [hrun, run_stop (by omega)])
    | succ j ih =>
      intro k σ1 hj hk hk2 h1 hrun
      refine hX _ _ _ _ _ _ _ ?_
      refine b_ge rfl (h1.en hT) (by omega) (by omega) (fun h => by omega) (fun h => ?_)
      refine g_letter hT h1 rfl h ?_
      refine g_isIn (fun h2 => ?_) (fun h2 => ?_)
      · refine ⟨fun h3 => absurd h3 (by decide +kernel), fun _ => ?_⟩
        have h9 := ih (k + 1) σ1 (by omega) (by omega) (by omega) h1 (by rw [hrun]; exact run_step h (kL_iff.mpr h2))
        rw [← nI_1 k] at h9
        exact h9
      · refine ⟨fun _ => ?_, fun h3 => absurd rfl h3⟩
        exact mid σ1 _ h1 (by rw [hrun, run_stop (fun z => h2 (kL_iff.mp z.2))])
  refine hX _ _ _ _ _ _ _ ?_
  refine g_skip hT hP (by omega) ?_
  intro σ1 h1
  rw [hb] at h1
  have h9 := loop1 _ b σ1 rfl (Nat.le_refl _) hs h1 rfl
  rw [← h1.2.1] at h9
  exact h9
theorem g_has_66 (hT : TX σ0 t n) (hP : PS σ0 σ p f dp) (hp : p ≤ n) (q1 : wB t n (sk t n p) [102, 117, 108, 108] = true → ∀ σ', PS σ0 σ' (sk t n p + 4) f dp → Q (.inl (some (.int (nI 1)))) sh_10 σ') (q0 : ¬ wB t n (sk t n p) [102, 117, 108, 108] = true → ∀ σ', PS σ0 σ' (sk t n p) f dp → Q (.inl (some (.int (nI 0)))) sh_10 σ') : mD (d + 3) 100 [.ref 0, .ref 1066] sh_10 σ Q := by
  have hn := hT.2.1
  have hs : sk t n p ≤ n := sk_le hp
  refine ⟨rfl, fun X hX => ?_⟩
  generalize hb : sk t n p = b at *
  have loop2 : ∀ j i σ1 v, 4 - i = j → i ≤ 4 → PS σ0 σ1 b f dp → v = nI (run kL t n b) → run kL t n b = b + 4 → (∀ k, k < i → t (b + k) = nI (List.getD [102, 117, 108, 108] k 0)) → X 55 [some (.ref 0), some (.ref 1066), some (.int v), some (.int (nI i))] [] sh_10 σ1 0 0 := by
    intro j
    induction j with
    | zero =>
      intro i σ1 v hj hi h1 hv hrun hall
      refine hX _ _ _ _ _ _ _ ?_
      refine b_ge (b := 4) rfl rfl (by omega) (by omega) (fun h => ?_) (fun h => by omega)
      refine hX _ _ _ _ _ _ _ ?_
      refine ⟨Or.inr rfl, q1 (wB_iff.mpr ⟨hrun, fun k hk => hall k (by have hk : k < 4 := hk; omega)⟩) _ ?_⟩
      exact h1.at1 (by rw [hv, hrun])
    | succ j ih =>
      intro i σ1 v hj hi h1 hv hrun hall
      have hi2 : b + i < n := by
        have := run_le (P := kL) (t := t) hs
        omega
      refine hX _ _ _ _ _ _ _ ?_
      refine b_ge (b := 4) rfl rfl (by omega) (by omega) (fun h => by omega) (fun h => ?_)
      refine g_letter hT h1 (k := b + i) (by rw [h1.2.1, nI_add]) hi2 ?_
      refine ⟨vp_in_nI (n := i) (N := 4) h (by omega), ?_⟩
      refine ⟨fun h2 => ?_, fun h2 => ?_⟩
      · have h2 : t (b + i) = nI (List.getD [102, 117, 108, 108] (nI i).toNatClampNeg 0) := h2
        rw [nI_clamp (by omega)] at h2
        refine hX _ _ _ _ _ _ _ ?_
        have h9 := ih (i + 1) σ1 v (by omega) (by omega) h1 hv hrun (fun k hk => by
          by_cases e : k = i
          · rw [e]; exact h2
          · exact hall k (by omega))
        rw [← nI_1 i] at h9
        exact h9
      · have h2 : ¬ t (b + i) = nI (List.getD [102, 117, 108, 108] (nI i).toNatClampNeg 0) := h2
        rw [nI_clamp (by omega)] at h2
        exact ⟨Or.inl rfl, q0 (fun z => h2 ((wB_iff.mp z).2 i h)) σ1 h1⟩
  have mid : ∀ σ1 v, PS σ0 σ1 b f dp → v = nI (run kL t n b) → X 38 [some (.ref 0), some (.ref 1066), some (.int v), none] [] sh_10 σ1 0 0 := by
    intro σ1 v h1 hv
    have hle := run_le (P := kL) (t := t) hs
    have hge := run_ge (P := kL) (t := t) (n := n) (p := b)
    refine hX _ _ _ _ _ _ _ ?_
    refine b_eq (a := run kL t n b - b) (b := 4) (by rw [hv, h1.2.1, nI_sub hge]) rfl (by omega) (by omega) (fun h => ?_) (fun h => ?_)
    · refine hX _ _ _ _ _ _ _ ?_
      exact loop2 _ 0 σ1 v rfl (by omega) h1 hv (by omega) (fun k hk => by omega)
    · exact ⟨Or.inl rfl, q0 (fun z => by have z1 : run kL t n b = b + 4 := (wB_iff.mp z).1; omega) σ1 h1⟩
  have loop1 : ∀ j k σ1, n - k = j → b ≤ k → k ≤ n → PS σ0 σ1 b f dp → run kL t n b = run kL t n k → X 9 [some (.ref 0), some (.ref 1066), some (.int (nI k)), none] [] sh_10 σ1 0 0 := by
    intro j
    induction j with
    | zero =>
      intro k σ1 hj hk hk2 h1 hrun
      refine hX _ _ _ _ _ _ _ ?_
      refine b_ge rfl (h1.en hT) (by omega) (by omega) (fun h => ?_) (fun h => by omega)
      exact mid σ1 _ h1 (by rw [hrun, run_stop (by omega)])
    | succ j ih =>
      intro k σ1 hj hk hk2 h1 hrun
      refine hX _ _ _ _ _ _ _ ?_
      refine b_ge rfl (h1.en hT) (by omega) (by omega) (fun h => by omega) (fun h => ?_)
      refine g_letter hT h1 rfl h ?_
      refine g_isIn (fun h2 => ?_) (fun h2 => ?_)
      · refine ⟨fun h3 => absurd h3 (by decide +kernel), fun _ => ?_⟩
        have h9 := ih (k + 1) σ1 (by omega) (by omega) (by omega) h1 (by rw [hrun]; exact run_step h (kL_iff.mpr h2))
        rw [← nI_1 k] at h9
        exact h9
      · refine ⟨fun _ => ?_, fun h3 => absurd rfl h3⟩
        exact mid σ1 _ h1 (by rw [hrun, run_stop (fun z => h2 (kL_iff.mp z.2))])
  refine hX _ _ _ _ _ _ _ ?_
  refine g_skip hT hP (by omega) ?_
  intro σ1 h1
  rw [hb] at h1
  have h9 := loop1 _ b σ1 rfl (Nat.le_refl _) hs h1 rfl
  rw [← h1.2.1] at h9
  exact h9
theorem g_has_67 (hT : TX σ0 t n) (hP : PS σ0 σ p f dp) (hp : p ≤ n) (q1 : wB t n (sk t n p) [115, 116, 114, 101, 101, 116] = true → ∀ σ', PS σ0 σ' (sk t n p + 6) f dp → Q (.inl (some (.int (nI 1)))) sh_10 σ') (q0 : ¬ wB t n (sk t n p) [115, 116, 114, 101, 101, 116] = true → ∀ σ', PS σ0 σ' (sk t n p) f dp → Q (.inl (some (.int (nI 0)))) sh_10 σ') : mD (d + 3) 100 [.ref 0, .ref 1067] sh_10 σ Q := by
  have hn := hT.2.1
  have hs : sk t n p ≤ n := sk_le hp
  refine ⟨rfl, fun X hX => ?_⟩
  generalize hb : sk t n p = b at *
  have loop2 : ∀ j i σ1 v, 6 - i = j → i ≤ 6 → PS σ0 σ1 b f dp → v = nI (run kL t n b) → run kL t n b = b + 6 → (∀ k, k < i → t (b + k) = nI (List.getD [115, 116, 114, 101, 101, 116] k 0)) → X 55 [some (.ref 0), some (.ref 1067), some (.int v), some (.int (nI i))] [] sh_10 σ1 0 0 := by
    intro j
    induction j with
    | zero =>
      intro i σ1 v hj hi h1 hv hrun hall
      refine hX _ _ _ _ _ _ _ ?_
      refine b_ge (b := 6) rfl rfl (by omega) (by omega) (fun h => ?_) (fun h => by omega)
      refine hX _ _ _ _ _ _ _ ?_
      refine ⟨Or.inr rfl, q1 (wB_iff.mpr ⟨hrun, fun k hk => hall k (by have hk : k < 6 := hk; omega)⟩) _ ?_⟩
      exact h1.at1 (by rw [hv, hrun])
    | succ j ih =>
      intro i σ1 v hj hi h1 hv hrun hall
      have hi2 : b + i < n := by
        have := run_le (P := kL) (t := t) hs
        omega
      refine hX _ _ _ _ _ _ _ ?_
      refine b_ge (b := 6) rfl rfl (by omega) (by omega) (fun h => by omega) (fun h => ?_)
      refine g_letter hT h1 (k := b + i) (by rw [h1.2.1, nI_add]) hi2 ?_
      refine ⟨vp_in_nI (n := i) (N := 6) h (by omega), ?_⟩
      refine ⟨fun h2 => ?_, fun h2 => ?_⟩
      · have h2 : t (b + i) = nI (List.getD [115, 116, 114, 101, 101, 116] (nI i).toNatClampNeg 0) := h2
        rw [nI_clamp (by omega)] at h2
        refine hX _ _ _ _ _ _ _ ?_
        have h9 := ih (i + 1) σ1 v (by omega) (by omega) h1 hv hrun (fun k hk => by
          by_cases e : k = i
          · rw [e]; exact h2
          · exact hall k (by omega))
        rw [← nI_1 i] at h9
        exact h9
      · have h2 : ¬ t (b + i) = nI (List.getD [115, 116, 114, 101, 101, 116] (nI i).toNatClampNeg 0) := h2
        rw [nI_clamp (by omega)] at h2
        exact ⟨Or.inl rfl, q0 (fun z => h2 ((wB_iff.mp z).2 i h)) σ1 h1⟩
  have mid : ∀ σ1 v, PS σ0 σ1 b f dp → v = nI (run kL t n b) → X 38 [some (.ref 0), some (.ref 1067), some (.int v), none] [] sh_10 σ1 0 0 := by
    intro σ1 v h1 hv
    have hle := run_le (P := kL) (t := t) hs
    have hge := run_ge (P := kL) (t := t) (n := n) (p := b)
    refine hX _ _ _ _ _ _ _ ?_
    refine b_eq (a := run kL t n b - b) (b := 6) (by rw [hv, h1.2.1, nI_sub hge]) rfl (by omega) (by omega) (fun h => ?_) (fun h => ?_)
    · refine hX _ _ _ _ _ _ _ ?_
      exact loop2 _ 0 σ1 v rfl (by omega) h1 hv (by omega) (fun k hk => by omega)
    · exact ⟨Or.inl rfl, q0 (fun z => by have z1 : run kL t n b = b + 6 := (wB_iff.mp z).1; omega) σ1 h1⟩
  have loop1 : ∀ j k σ1, n - k = j → b ≤ k → k ≤ n → PS σ0 σ1 b f dp → run kL t n b = run kL t n k → X 9 [some (.ref 0), some (.ref 1067), some (.int (nI k)), none] [] sh_10 σ1 0 0 := by
    intro j
    induction j with
    | zero =>
      intro k σ1 hj hk hk2 h1 hrun
      refine hX _ _ _ _ _ _ _ ?_
      refine b_ge rfl (h1.en hT) (by omega) (by omega) (fun h => ?_) (fun h => by omega)
      exact mid σ1 _ h1 (by rw [hrun, run_stop (by omega)])
    | succ j ih =>
      intro k σ1 hj hk hk2 h1 hrun
      refine hX _ _ _ _ _ _ _ ?_
      refine b_ge rfl (h1.en hT) (by omega) (by omega) (fun h => by omega) (fun h => ?_)
      refine g_letter hT h1 rfl h ?_
      refine g_isIn (fun h2 => ?_) (fun h2 => ?_)
      · refine ⟨fun h3 => absurd h3 (by decide +kernel), fun _ => ?_⟩
        have h9 := ih (k + 1) σ1 (by omega) (by omega) (by omega) h1 (by rw [hrun]; exact run_step h (kL_iff.mpr h2))
        rw [← nI_1 k] at h9
        exact h9
      · refine ⟨fun _ => ?_, fun h3 => absurd rfl h3⟩
        exact mid σ1 _ h1 (by rw [hrun, run_stop (fun z => h2 (kL_iff.mp z.2))])
  refine hX _ _ _ _ _ _ _ ?_
  refine g_skip hT hP (by omega) ?_
  intro σ1 h1
  rw [hb] at h1
  have h9 := loop1 _ b σ1 rfl (Nat.le_refl _) hs h1 rfl
  rw [← h1.2.1] at h9
  exact h9
theorem g_has_68 (hT : TX σ0 t n) (hP : PS σ0 σ p f dp) (hp : p ≤ n) (q1 : wB t n (sk t n p) [120] = true → ∀ σ', PS σ0 σ' (sk t n p + 1) f dp → Q (.inl (some (.int (nI 1)))) sh_10 σ') (q0 : ¬ wB t n (sk t n p) [120] = true → ∀ σ', PS σ0 σ' (sk t n p) f dp → Q (.inl (some (.int (nI 0)))) sh_10 σ') : mD (d + 3) 100 [.ref 0, .ref 1068] sh_10 σ Q := by
  have hn := hT.2.1
  have hs : sk t n p ≤ n := sk_le hp
  refine ⟨rfl, fun X hX => ?_⟩
  generalize hb : sk t n p = b at *
  have loop2 : ∀ j i σ1 v, 1 - i = j → i ≤ 1 → PS σ0 σ1 b f dp → v = nI (run kL t n b) → run kL t n b = b + 1 → (∀ k, k < i → t (b + k) = nI (List.getD [120] k 0)) → X 55 [some (.ref 0), some (.ref 1068), some (.int v), some (.int (nI i))] [] sh_10 σ1 0 0 := by
    intro j
    induction j with
    | zero =>
      intro i σ1 v hj hi h1 hv hrun hall
      refine hX _ _ _ _ _ _ _ ?_
      refine b_ge (b := 1) rfl rfl (by omega) (by omega) (fun h => ?_) (fun h => by omega)
      refine hX _ _ _ _ _ _ _ ?_
      refine ⟨Or.inr rfl, q1 (wB_iff.mpr ⟨hrun, fun k hk => hall k (by have hk : k < 1 := hk; omega)⟩) _ ?_⟩
      exact h1.at1 (by rw [hv, hrun])
    | succ j ih =>
      intro i σ1 v hj hi h1 hv hrun hall
      have hi2 : b + i < n := by
        have := run_le (P := kL) (t := t) hs
        omega
      refine hX _ _ _ _ _ _ _ ?_
      refine b_ge (b := 1) rfl rfl (by omega) (by omega) (fun h => by omega) (fun h => ?_)
      refine g_letter hT h1 (k := b + i) (by rw [h1.2.1, nI_add]) hi2 ?_
      refine ⟨vp_in_nI (n := i) (N := 1) h (by omega), ?_⟩
      refine ⟨fun h2 => ?_, fun h2 => ?_⟩
      · have h2 : t (b + i) = nI (List.getD [120] (nI i).toNatClampNeg 0) := h2
        rw [nI_clamp (by omega)] at h2
        refine hX _ _ _ _ _ _ _ ?_
        have h9 := ih (i + 1) σ1 v (by omega) (by omega) h1 hv hrun (fun k hk => by
          by_cases e : k = i
          · rw [e]; exact h2
          · exact hall k (by omega))
        rw [← nI_1 i] at h9
        exact h9
      · have h2 : ¬ t (b + i) = nI (List.getD [120] (nI i).toNatClampNeg 0) := h2
        rw [nI_clamp (by omega)] at h2
        exact ⟨Or.inl rfl, q0 (fun z => h2 ((wB_iff.mp z).2 i h)) σ1 h1⟩
  have mid : ∀ σ1 v, PS σ0 σ1 b f dp → v = nI (run kL t n b) → X 38 [some (.ref 0), some (.ref 1068), some (.int v), none] [] sh_10 σ1 0 0 := by
    intro σ1 v h1 hv
    have hle := run_le (P := kL) (t := t) hs
    have hge := run_ge (P := kL) (t := t) (n := n) (p := b)
    refine hX _ _ _ _ _ _ _ ?_
    refine b_eq (a := run kL t n b - b) (b := 1) (by rw [hv, h1.2.1, nI_sub hge]) rfl (by omega) (by omega) (fun h => ?_) (fun h => ?_)
    · refine hX _ _ _ _ _ _ _ ?_
      exact loop2 _ 0 σ1 v rfl (by omega) h1 hv (by omega) (fun k hk => by omega)
    · exact ⟨Or.inl rfl, q0 (fun z => by have z1 : run kL t n b = b + 1 := (wB_iff.mp z).1; omega) σ1 h1⟩
  have loop1 : ∀ j k σ1, n - k = j → b ≤ k → k ≤ n → PS σ0 σ1 b f dp → run kL t n b = run kL t n k → X 9 [some (.ref 0), some (.ref 1068), some (.int (nI k)), none] [] sh_10 σ1 0 0 := by
    intro j
    induction j with
    | zero =>
      intro k σ1 hj hk hk2 h1 hrun
      refine hX _ _ _ _ _ _ _ ?_
      refine b_ge rfl (h1.en hT) (by omega) (by omega) (fun h => ?_) (fun h => by omega)
      exact mid σ1 _ h1 (by rw [hrun, run_stop (by omega)])
    | succ j ih =>
      intro k σ1 hj hk hk2 h1 hrun
      refine hX _ _ _ _ _ _ _ ?_
      refine b_ge rfl (h1.en hT) (by omega) (by omega) (fun h => by omega) (fun h => ?_)
      refine g_letter hT h1 rfl h ?_
      refine g_isIn (fun h2 => ?_) (fun h2 => ?_)
      · refine ⟨fun h3 => absurd h3 (by decide +kernel), fun _ => ?_⟩
        have h9 := ih (k + 1) σ1 (by omega) (by omega) (by omega) h1 (by rw [hrun]; exact run_step h (kL_iff.mpr h2))
        rw [← nI_1 k] at h9
        exact h9
      · refine ⟨fun _ => ?_, fun h3 => absurd rfl h3⟩
        exact mid σ1 _ h1 (by rw [hrun, run_stop (fun z => h2 (kL_iff.mp z.2))])
  refine hX _ _ _ _ _ _ _ ?_
  refine g_skip hT hP (by omega) ?_
  intro σ1 h1
  rw [hb] at h1
  have h9 := loop1 _ b σ1 rfl (Nat.le_refl _) hs h1 rfl
  rw [← h1.2.1] at h9
  exact h9
theorem g_has_69 (hT : TX σ0 t n) (hP : PS σ0 σ p f dp) (hp : p ≤ n) (q1 : wB t n (sk t n p) [121] = true → ∀ σ', PS σ0 σ' (sk t n p + 1) f dp → Q (.inl (some (.int (nI 1)))) sh_10 σ') (q0 : ¬ wB t n (sk t n p) [121] = true → ∀ σ', PS σ0 σ' (sk t n p) f dp → Q (.inl (some (.int (nI 0)))) sh_10 σ') : mD (d + 3) 100 [.ref 0, .ref 1069] sh_10 σ Q := by
  have hn := hT.2.1
  have hs : sk t n p ≤ n := sk_le hp
  refine ⟨rfl, fun X hX => ?_⟩
  generalize hb : sk t n p = b at *
  have loop2 : ∀ j i σ1 v, 1 - i = j → i ≤ 1 → PS σ0 σ1 b f dp → v = nI (run kL t n b) → run kL t n b = b + 1 → (∀ k, k < i → t (b + k) = nI (List.getD [121] k 0)) → X 55 [some (.ref 0), some (.ref 1069), some (.int v), some (.int (nI i))] [] sh_10 σ1 0 0 := by
    intro j
    induction j with
    | zero =>
      intro i σ1 v hj hi h1 hv hrun hall
      refine hX _ _ _ _ _ _ _ ?_
      refine b_ge (b := 1) rfl rfl (by omega) (by omega) (fun h => ?_) (fun h => by omega)
      refine hX _ _ _ _ _ _ _ ?_
      refine ⟨Or.inr rfl, q1 (wB_iff.mpr ⟨hrun, fun k hk => hall k (by have hk : k < 1 := hk; omega)⟩) _ ?_⟩
      exact h1.at1 (by rw [hv, hrun])
    | succ j ih =>
      intro i σ1 v hj hi h1 hv hrun hall
      have hi2 : b + i < n := by
        have := run_le (P := kL) (t := t) hs
        omega
      refine hX _ _ _ _ _ _ _ ?_
      refine b_ge (b := 1) rfl rfl (by omega) (by omega) (fun h => by omega) (fun h => ?_)
      refine g_letter hT h1 (k := b + i) (by rw [h1.2.1, nI_add]) hi2 ?_
      refine ⟨vp_in_nI (n := i) (N := 1) h (by omega), ?_⟩
      refine ⟨fun h2 => ?_, fun h2 => ?_⟩
      · have h2 : t (b + i) = nI (List.getD [121] (nI i).toNatClampNeg 0) := h2
        rw [nI_clamp (by omega)] at h2
        refine hX _ _ _ _ _ _ _ ?_
        have h9 := ih (i + 1) σ1 v (by omega) (by omega) h1 hv hrun (fun k hk => by
          by_cases e : k = i
          · rw [e]; exact h2
          · exact hall k (by omega))
        rw [← nI_1 i] at h9
        exact h9
      · have h2 : ¬ t (b + i) = nI (List.getD [121] (nI i).toNatClampNeg 0) := h2
        rw [nI_clamp (by omega)] at h2
        exact ⟨Or.inl rfl, q0 (fun z => h2 ((wB_iff.mp z).2 i h)) σ1 h1⟩
  have mid : ∀ σ1 v, PS σ0 σ1 b f dp → v = nI (run kL t n b) → X 38 [some (.ref 0), some (.ref 1069), some (.int v), none] [] sh_10 σ1 0 0 := by
    intro σ1 v h1 hv
    have hle := run_le (P := kL) (t := t) hs
    have hge := run_ge (P := kL) (t := t) (n := n) (p := b)
    refine hX _ _ _ _ _ _ _ ?_
    refine b_eq (a := run kL t n b - b) (b := 1) (by rw [hv, h1.2.1, nI_sub hge]) rfl (by omega) (by omega) (fun h => ?_) (fun h => ?_)
    · refine hX _ _ _ _ _ _ _ ?_
      exact loop2 _ 0 σ1 v rfl (by omega) h1 hv (by omega) (fun k hk => by omega)
    · exact ⟨Or.inl rfl, q0 (fun z => by have z1 : run kL t n b = b + 1 := (wB_iff.mp z).1; omega) σ1 h1⟩
  have loop1 : ∀ j k σ1, n - k = j → b ≤ k → k ≤ n → PS σ0 σ1 b f dp → run kL t n b = run kL t n k → X 9 [some (.ref 0), some (.ref 1069), some (.int (nI k)), none] [] sh_10 σ1 0 0 := by
    intro j
    induction j with
    | zero =>
      intro k σ1 hj hk hk2 h1 hrun
      refine hX _ _ _ _ _ _ _ ?_
      refine b_ge rfl (h1.en hT) (by omega) (by omega) (fun h => ?_) (fun h => by omega)
      exact mid σ1 _ h1 (by rw [hrun, run_stop (by omega)])
    | succ j ih =>
      intro k σ1 hj hk hk2 h1 hrun
      refine hX _ _ _ _ _ _ _ ?_
      refine b_ge rfl (h1.en hT) (by omega) (by omega) (fun h => by omega) (fun h => ?_)
      refine g_letter hT h1 rfl h ?_
      refine g_isIn (fun h2 => ?_) (fun h2 => ?_)
      · refine ⟨fun h3 => absurd h3 (by decide +kernel), fun _ => ?_⟩
        have h9 := ih (k + 1) σ1 (by omega) (by omega) (by omega) h1 (by rw [hrun]; exact run_step h (kL_iff.mpr h2))
        rw [← nI_1 k] at h9
        exact h9
      · refine ⟨fun _ => ?_, fun h3 => absurd rfl h3⟩
        exact mid σ1 _ h1 (by rw [hrun, run_stop (fun z => h2 (kL_iff.mp z.2))])
  refine hX _ _ _ _ _ _ _ ?_
  refine g_skip hT hP (by omega) ?_
  intro σ1 h1
  rw [hb] at h1
  have h9 := loop1 _ b σ1 rfl (Nat.le_refl _) hs h1 rfl
  rw [← h1.2.1] at h9
  exact h9
theorem g_has_70 (hT : TX σ0 t n) (hP : PS σ0 σ p f dp) (hp : p ≤ n) (q1 : wB t n (sk t n p) [119, 97, 105, 116, 115] = true → ∀ σ', PS σ0 σ' (sk t n p + 5) f dp → Q (.inl (some (.int (nI 1)))) sh_10 σ') (q0 : ¬ wB t n (sk t n p) [119, 97, 105, 116, 115] = true → ∀ σ', PS σ0 σ' (sk t n p) f dp → Q (.inl (some (.int (nI 0)))) sh_10 σ') : mD (d + 3) 100 [.ref 0, .ref 1070] sh_10 σ Q := by
  have hn := hT.2.1
  have hs : sk t n p ≤ n := sk_le hp
  refine ⟨rfl, fun X hX => ?_⟩
  generalize hb : sk t n p = b at *
  have loop2 : ∀ j i σ1 v, 5 - i = j → i ≤ 5 → PS σ0 σ1 b f dp → v = nI (run kL t n b) → run kL t n b = b + 5 → (∀ k, k < i → t (b + k) = nI (List.getD [119, 97, 105, 116, 115] k 0)) → X 55 [some (.ref 0), some (.ref 1070), some (.int v), some (.int (nI i))] [] sh_10 σ1 0 0 := by
    intro j
    induction j with
    | zero =>
      intro i σ1 v hj hi h1 hv hrun hall
      refine hX _ _ _ _ _ _ _ ?_
      refine b_ge (b := 5) rfl rfl (by omega) (by omega) (fun h => ?_) (fun h => by omega)
      refine hX _ _ _ _ _ _ _ ?_
      refine ⟨Or.inr rfl, q1 (wB_iff.mpr ⟨hrun, fun k hk => hall k (by have hk : k < 5 := hk; omega)⟩) _ ?_⟩
      exact h1.at1 (by rw [hv, hrun])
    | succ j ih =>
      intro i σ1 v hj hi h1 hv hrun hall
      have hi2 : b + i < n := by
        have := run_le (P := kL) (t := t) hs
        omega
      refine hX _ _ _ _ _ _ _ ?_
      refine b_ge (b := 5) rfl rfl (by omega) (by omega) (fun h => by omega) (fun h => ?_)
      refine g_letter hT h1 (k := b + i) (by rw [h1.2.1, nI_add]) hi2 ?_
      refine ⟨vp_in_nI (n := i) (N := 5) h (by omega), ?_⟩
      refine ⟨fun h2 => ?_, fun h2 => ?_⟩
      · have h2 : t (b + i) = nI (List.getD [119, 97, 105, 116, 115] (nI i).toNatClampNeg 0) := h2
        rw [nI_clamp (by omega)] at h2
        refine hX _ _ _ _ _ _ _ ?_
        have h9 := ih (i + 1) σ1 v (by omega) (by omega) h1 hv hrun (fun k hk => by
          by_cases e : k = i
          · rw [e]; exact h2
          · exact hall k (by omega))
        rw [← nI_1 i] at h9
        exact h9
      · have h2 : ¬ t (b + i) = nI (List.getD [119, 97, 105, 116, 115] (nI i).toNatClampNeg 0) := h2
        rw [nI_clamp (by omega)] at h2
        exact ⟨Or.inl rfl, q0 (fun z => h2 ((wB_iff.mp z).2 i h)) σ1 h1⟩
  have mid : ∀ σ1 v, PS σ0 σ1 b f dp → v = nI (run kL t n b) → X 38 [some (.ref 0), some (.ref 1070), some (.int v), none] [] sh_10 σ1 0 0 := by
    intro σ1 v h1 hv
    have hle := run_le (P := kL) (t := t) hs
    have hge := run_ge (P := kL) (t := t) (n := n) (p := b)
    refine hX _ _ _ _ _ _ _ ?_
    refine b_eq (a := run kL t n b - b) (b := 5) (by rw [hv, h1.2.1, nI_sub hge]) rfl (by omega) (by omega) (fun h => ?_) (fun h => ?_)
    · refine hX _ _ _ _ _ _ _ ?_
      exact loop2 _ 0 σ1 v rfl (by omega) h1 hv (by omega) (fun k hk => by omega)
    · exact ⟨Or.inl rfl, q0 (fun z => by have z1 : run kL t n b = b + 5 := (wB_iff.mp z).1; omega) σ1 h1⟩
  have loop1 : ∀ j k σ1, n - k = j → b ≤ k → k ≤ n → PS σ0 σ1 b f dp → run kL t n b = run kL t n k → X 9 [some (.ref 0), some (.ref 1070), some (.int (nI k)), none] [] sh_10 σ1 0 0 := by
    intro j
    induction j with
    | zero =>
      intro k σ1 hj hk hk2 h1 hrun
      refine hX _ _ _ _ _ _ _ ?_
      refine b_ge rfl (h1.en hT) (by omega) (by omega) (fun h => ?_) (fun h => by omega)
      exact mid σ1 _ h1 (by rw [hrun, run_stop (by omega)])
    | succ j ih =>
      intro k σ1 hj hk hk2 h1 hrun
      refine hX _ _ _ _ _ _ _ ?_
      refine b_ge rfl (h1.en hT) (by omega) (by omega) (fun h => by omega) (fun h => ?_)
      refine g_letter hT h1 rfl h ?_
      refine g_isIn (fun h2 => ?_) (fun h2 => ?_)
      · refine ⟨fun h3 => absurd h3 (by decide +kernel), fun _ => ?_⟩
        have h9 := ih (k + 1) σ1 (by omega) (by omega) (by omega) h1 (by rw [hrun]; exact run_step h (kL_iff.mpr h2))
        rw [← nI_1 k] at h9
        exact h9
      · refine ⟨fun _ => ?_, fun h3 => absurd rfl h3⟩
        exact mid σ1 _ h1 (by rw [hrun, run_stop (fun z => h2 (kL_iff.mp z.2))])
  refine hX _ _ _ _ _ _ _ ?_
  refine g_skip hT hP (by omega) ?_
  intro σ1 h1
  rw [hb] at h1
  have h9 := loop1 _ b σ1 rfl (Nat.le_refl _) hs h1 rfl
  rw [← h1.2.1] at h9
  exact h9
theorem g_has_71 (hT : TX σ0 t n) (hP : PS σ0 σ p f dp) (hp : p ≤ n) (q1 : wB t n (sk t n p) [108, 111, 97, 100, 115] = true → ∀ σ', PS σ0 σ' (sk t n p + 5) f dp → Q (.inl (some (.int (nI 1)))) sh_10 σ') (q0 : ¬ wB t n (sk t n p) [108, 111, 97, 100, 115] = true → ∀ σ', PS σ0 σ' (sk t n p) f dp → Q (.inl (some (.int (nI 0)))) sh_10 σ') : mD (d + 3) 100 [.ref 0, .ref 1071] sh_10 σ Q := by
  have hn := hT.2.1
  have hs : sk t n p ≤ n := sk_le hp
  refine ⟨rfl, fun X hX => ?_⟩
  generalize hb : sk t n p = b at *
  have loop2 : ∀ j i σ1 v, 5 - i = j → i ≤ 5 → PS σ0 σ1 b f dp → v = nI (run kL t n b) → run kL t n b = b + 5 → (∀ k, k < i → t (b + k) = nI (List.getD [108, 111, 97, 100, 115] k 0)) → X 55 [some (.ref 0), some (.ref 1071), some (.int v), some (.int (nI i))] [] sh_10 σ1 0 0 := by
    intro j
    induction j with
    | zero =>
      intro i σ1 v hj hi h1 hv hrun hall
      refine hX _ _ _ _ _ _ _ ?_
      refine b_ge (b := 5) rfl rfl (by omega) (by omega) (fun h => ?_) (fun h => by omega)
      refine hX _ _ _ _ _ _ _ ?_
      refine ⟨Or.inr rfl, q1 (wB_iff.mpr ⟨hrun, fun k hk => hall k (by have hk : k < 5 := hk; omega)⟩) _ ?_⟩
      exact h1.at1 (by rw [hv, hrun])
    | succ j ih =>
      intro i σ1 v hj hi h1 hv hrun hall
      have hi2 : b + i < n := by
        have := run_le (P := kL) (t := t) hs
        omega
      refine hX _ _ _ _ _ _ _ ?_
      refine b_ge (b := 5) rfl rfl (by omega) (by omega) (fun h => by omega) (fun h => ?_)
      refine g_letter hT h1 (k := b + i) (by rw [h1.2.1, nI_add]) hi2 ?_
      refine ⟨vp_in_nI (n := i) (N := 5) h (by omega), ?_⟩
      refine ⟨fun h2 => ?_, fun h2 => ?_⟩
      · have h2 : t (b + i) = nI (List.getD [108, 111, 97, 100, 115] (nI i).toNatClampNeg 0) := h2
        rw [nI_clamp (by omega)] at h2
        refine hX _ _ _ _ _ _ _ ?_
        have h9 := ih (i + 1) σ1 v (by omega) (by omega) h1 hv hrun (fun k hk => by
          by_cases e : k = i
          · rw [e]; exact h2
          · exact hall k (by omega))
        rw [← nI_1 i] at h9
        exact h9
      · have h2 : ¬ t (b + i) = nI (List.getD [108, 111, 97, 100, 115] (nI i).toNatClampNeg 0) := h2
        rw [nI_clamp (by omega)] at h2
        exact ⟨Or.inl rfl, q0 (fun z => h2 ((wB_iff.mp z).2 i h)) σ1 h1⟩
  have mid : ∀ σ1 v, PS σ0 σ1 b f dp → v = nI (run kL t n b) → X 38 [some (.ref 0), some (.ref 1071), some (.int v), none] [] sh_10 σ1 0 0 := by
    intro σ1 v h1 hv
    have hle := run_le (P := kL) (t := t) hs
    have hge := run_ge (P := kL) (t := t) (n := n) (p := b)
    refine hX _ _ _ _ _ _ _ ?_
    refine b_eq (a := run kL t n b - b) (b := 5) (by rw [hv, h1.2.1, nI_sub hge]) rfl (by omega) (by omega) (fun h => ?_) (fun h => ?_)
    · refine hX _ _ _ _ _ _ _ ?_
      exact loop2 _ 0 σ1 v rfl (by omega) h1 hv (by omega) (fun k hk => by omega)
    · exact ⟨Or.inl rfl, q0 (fun z => by have z1 : run kL t n b = b + 5 := (wB_iff.mp z).1; omega) σ1 h1⟩
  have loop1 : ∀ j k σ1, n - k = j → b ≤ k → k ≤ n → PS σ0 σ1 b f dp → run kL t n b = run kL t n k → X 9 [some (.ref 0), some (.ref 1071), some (.int (nI k)), none] [] sh_10 σ1 0 0 := by
    intro j
    induction j with
    | zero =>
      intro k σ1 hj hk hk2 h1 hrun
      refine hX _ _ _ _ _ _ _ ?_
      refine b_ge rfl (h1.en hT) (by omega) (by omega) (fun h => ?_) (fun h => by omega)
      exact mid σ1 _ h1 (by rw [hrun, run_stop (by omega)])
    | succ j ih =>
      intro k σ1 hj hk hk2 h1 hrun
      refine hX _ _ _ _ _ _ _ ?_
      refine b_ge rfl (h1.en hT) (by omega) (by omega) (fun h => by omega) (fun h => ?_)
      refine g_letter hT h1 rfl h ?_
      refine g_isIn (fun h2 => ?_) (fun h2 => ?_)
      · refine ⟨fun h3 => absurd h3 (by decide +kernel), fun _ => ?_⟩
        have h9 := ih (k + 1) σ1 (by omega) (by omega) (by omega) h1 (by rw [hrun]; exact run_step h (kL_iff.mpr h2))
        rw [← nI_1 k] at h9
        exact h9
      · refine ⟨fun _ => ?_, fun h3 => absurd rfl h3⟩
        exact mid σ1 _ h1 (by rw [hrun, run_stop (fun z => h2 (kL_iff.mp z.2))])
  refine hX _ _ _ _ _ _ _ ?_
  refine g_skip hT hP (by omega) ?_
  intro σ1 h1
  rw [hb] at h1
  have h9 := loop1 _ b σ1 rfl (Nat.le_refl _) hs h1 rfl
  rw [← h1.2.1] at h9
  exact h9
theorem g_has_72 (hT : TX σ0 t n) (hP : PS σ0 σ p f dp) (hp : p ≤ n) (q1 : wB t n (sk t n p) [116, 105, 108, 108] = true → ∀ σ', PS σ0 σ' (sk t n p + 4) f dp → Q (.inl (some (.int (nI 1)))) sh_10 σ') (q0 : ¬ wB t n (sk t n p) [116, 105, 108, 108] = true → ∀ σ', PS σ0 σ' (sk t n p) f dp → Q (.inl (some (.int (nI 0)))) sh_10 σ') : mD (d + 3) 100 [.ref 0, .ref 1072] sh_10 σ Q := by
  have hn := hT.2.1
  have hs : sk t n p ≤ n := sk_le hp
  refine ⟨rfl, fun X hX => ?_⟩
  generalize hb : sk t n p = b at *
  have loop2 : ∀ j i σ1 v, 4 - i = j → i ≤ 4 → PS σ0 σ1 b f dp → v = nI (run kL t n b) → run kL t n b = b + 4 → (∀ k, k < i → t (b + k) = nI (List.getD [116, 105, 108, 108] k 0)) → X 55 [some (.ref 0), some (.ref 1072), some (.int v), some (.int (nI i))] [] sh_10 σ1 0 0 := by
    intro j
    induction j with
    | zero =>
      intro i σ1 v hj hi h1 hv hrun hall
      refine hX _ _ _ _ _ _ _ ?_
      refine b_ge (b := 4) rfl rfl (by omega) (by omega) (fun h => ?_) (fun h => by omega)
      refine hX _ _ _ _ _ _ _ ?_
      refine ⟨Or.inr rfl, q1 (wB_iff.mpr ⟨hrun, fun k hk => hall k (by have hk : k < 4 := hk; omega)⟩) _ ?_⟩
      exact h1.at1 (by rw [hv, hrun])
    | succ j ih =>
      intro i σ1 v hj hi h1 hv hrun hall
      have hi2 : b + i < n := by
        have := run_le (P := kL) (t := t) hs
        omega
      refine hX _ _ _ _ _ _ _ ?_
      refine b_ge (b := 4) rfl rfl (by omega) (by omega) (fun h => by omega) (fun h => ?_)
      refine g_letter hT h1 (k := b + i) (by rw [h1.2.1, nI_add]) hi2 ?_
      refine ⟨vp_in_nI (n := i) (N := 4) h (by omega), ?_⟩
      refine ⟨fun h2 => ?_, fun h2 => ?_⟩
      · have h2 : t (b + i) = nI (List.getD [116, 105, 108, 108] (nI i).toNatClampNeg 0) := h2
        rw [nI_clamp (by omega)] at h2
        refine hX _ _ _ _ _ _ _ ?_
        have h9 := ih (i + 1) σ1 v (by omega) (by omega) h1 hv hrun (fun k hk => by
          by_cases e : k = i
          · rw [e]; exact h2
          · exact hall k (by omega))
        rw [← nI_1 i] at h9
        exact h9
      · have h2 : ¬ t (b + i) = nI (List.getD [116, 105, 108, 108] (nI i).toNatClampNeg 0) := h2
        rw [nI_clamp (by omega)] at h2
        exact ⟨Or.inl rfl, q0 (fun z => h2 ((wB_iff.mp z).2 i h)) σ1 h1⟩
  have mid : ∀ σ1 v, PS σ0 σ1 b f dp → v = nI (run kL t n b) → X 38 [some (.ref 0), some (.ref 1072), some (.int v), none] [] sh_10 σ1 0 0 := by
    intro σ1 v h1 hv
    have hle := run_le (P := kL) (t := t) hs
    have hge := run_ge (P := kL) (t := t) (n := n) (p := b)
    refine hX _ _ _ _ _ _ _ ?_
    refine b_eq (a := run kL t n b - b) (b := 4) (by rw [hv, h1.2.1, nI_sub hge]) rfl (by omega) (by omega) (fun h => ?_) (fun h => ?_)
    · refine hX _ _ _ _ _ _ _ ?_
      exact loop2 _ 0 σ1 v rfl (by omega) h1 hv (by omega) (fun k hk => by omega)
    · exact ⟨Or.inl rfl, q0 (fun z => by have z1 : run kL t n b = b + 4 := (wB_iff.mp z).1; omega) σ1 h1⟩
  have loop1 : ∀ j k σ1, n - k = j → b ≤ k → k ≤ n → PS σ0 σ1 b f dp → run kL t n b = run kL t n k → X 9 [some (.ref 0), some (.ref 1072), some (.int (nI k)), none] [] sh_10 σ1 0 0 := by
    intro j
    induction j with
    | zero =>
      intro k σ1 hj hk hk2 h1 hrun
      refine hX _ _ _ _ _ _ _ ?_
      refine b_ge rfl (h1.en hT) (by omega) (by omega) (fun h => ?_) (fun h => by omega)
      exact mid σ1 _ h1 (by rw [hrun, run_stop (by omega)])
    | succ j ih =>
      intro k σ1 hj hk hk2 h1 hrun
      refine hX _ _ _ _ _ _ _ ?_
      refine b_ge rfl (h1.en hT) (by omega) (by omega) (fun h => by omega) (fun h => ?_)
      refine g_letter hT h1 rfl h ?_
      refine g_isIn (fun h2 => ?_) (fun h2 => ?_)
      · refine ⟨fun h3 => absurd h3 (by decide +kernel), fun _ => ?_⟩
        have h9 := ih (k + 1) σ1 (by omega) (by omega) (by omega) h1 (by rw [hrun]; exact run_step h (kL_iff.mpr h2))
        rw [← nI_1 k] at h9
        exact h9
      · refine ⟨fun _ => ?_, fun h3 => absurd rfl h3⟩
        exact mid σ1 _ h1 (by rw [hrun, run_stop (fun z => h2 (kL_iff.mp z.2))])
  refine hX _ _ _ _ _ _ _ ?_
  refine g_skip hT hP (by omega) ?_
  intro σ1 h1
  rw [hb] at h1
  have h9 := loop1 _ b σ1 rfl (Nat.le_refl _) hs h1 rfl
  rw [← h1.2.1] at h9
  exact h9
theorem g_has_73 (hT : TX σ0 t n) (hP : PS σ0 σ p f dp) (hp : p ≤ n) (q1 : wB t n (sk t n p) [100, 97, 121] = true → ∀ σ', PS σ0 σ' (sk t n p + 3) f dp → Q (.inl (some (.int (nI 1)))) sh_10 σ') (q0 : ¬ wB t n (sk t n p) [100, 97, 121] = true → ∀ σ', PS σ0 σ' (sk t n p) f dp → Q (.inl (some (.int (nI 0)))) sh_10 σ') : mD (d + 3) 100 [.ref 0, .ref 1073] sh_10 σ Q := by
  have hn := hT.2.1
  have hs : sk t n p ≤ n := sk_le hp
  refine ⟨rfl, fun X hX => ?_⟩
  generalize hb : sk t n p = b at *
  have loop2 : ∀ j i σ1 v, 3 - i = j → i ≤ 3 → PS σ0 σ1 b f dp → v = nI (run kL t n b) → run kL t n b = b + 3 → (∀ k, k < i → t (b + k) = nI (List.getD [100, 97, 121] k 0)) → X 55 [some (.ref 0), some (.ref 1073), some (.int v), some (.int (nI i))] [] sh_10 σ1 0 0 := by
    intro j
    induction j with
    | zero =>
      intro i σ1 v hj hi h1 hv hrun hall
      refine hX _ _ _ _ _ _ _ ?_
      refine b_ge (b := 3) rfl rfl (by omega) (by omega) (fun h => ?_) (fun h => by omega)
      refine hX _ _ _ _ _ _ _ ?_
      refine ⟨Or.inr rfl, q1 (wB_iff.mpr ⟨hrun, fun k hk => hall k (by have hk : k < 3 := hk; omega)⟩) _ ?_⟩
      exact h1.at1 (by rw [hv, hrun])
    | succ j ih =>
      intro i σ1 v hj hi h1 hv hrun hall
      have hi2 : b + i < n := by
        have := run_le (P := kL) (t := t) hs
        omega
      refine hX _ _ _ _ _ _ _ ?_
      refine b_ge (b := 3) rfl rfl (by omega) (by omega) (fun h => by omega) (fun h => ?_)
      refine g_letter hT h1 (k := b + i) (by rw [h1.2.1, nI_add]) hi2 ?_
      refine ⟨vp_in_nI (n := i) (N := 3) h (by omega), ?_⟩
      refine ⟨fun h2 => ?_, fun h2 => ?_⟩
      · have h2 : t (b + i) = nI (List.getD [100, 97, 121] (nI i).toNatClampNeg 0) := h2
        rw [nI_clamp (by omega)] at h2
        refine hX _ _ _ _ _ _ _ ?_
        have h9 := ih (i + 1) σ1 v (by omega) (by omega) h1 hv hrun (fun k hk => by
          by_cases e : k = i
          · rw [e]; exact h2
          · exact hall k (by omega))
        rw [← nI_1 i] at h9
        exact h9
      · have h2 : ¬ t (b + i) = nI (List.getD [100, 97, 121] (nI i).toNatClampNeg 0) := h2
        rw [nI_clamp (by omega)] at h2
        exact ⟨Or.inl rfl, q0 (fun z => h2 ((wB_iff.mp z).2 i h)) σ1 h1⟩
  have mid : ∀ σ1 v, PS σ0 σ1 b f dp → v = nI (run kL t n b) → X 38 [some (.ref 0), some (.ref 1073), some (.int v), none] [] sh_10 σ1 0 0 := by
    intro σ1 v h1 hv
    have hle := run_le (P := kL) (t := t) hs
    have hge := run_ge (P := kL) (t := t) (n := n) (p := b)
    refine hX _ _ _ _ _ _ _ ?_
    refine b_eq (a := run kL t n b - b) (b := 3) (by rw [hv, h1.2.1, nI_sub hge]) rfl (by omega) (by omega) (fun h => ?_) (fun h => ?_)
    · refine hX _ _ _ _ _ _ _ ?_
      exact loop2 _ 0 σ1 v rfl (by omega) h1 hv (by omega) (fun k hk => by omega)
    · exact ⟨Or.inl rfl, q0 (fun z => by have z1 : run kL t n b = b + 3 := (wB_iff.mp z).1; omega) σ1 h1⟩
  have loop1 : ∀ j k σ1, n - k = j → b ≤ k → k ≤ n → PS σ0 σ1 b f dp → run kL t n b = run kL t n k → X 9 [some (.ref 0), some (.ref 1073), some (.int (nI k)), none] [] sh_10 σ1 0 0 := by
    intro j
    induction j with
    | zero =>
      intro k σ1 hj hk hk2 h1 hrun
      refine hX _ _ _ _ _ _ _ ?_
      refine b_ge rfl (h1.en hT) (by omega) (by omega) (fun h => ?_) (fun h => by omega)
      exact mid σ1 _ h1 (by rw [hrun, run_stop (by omega)])
    | succ j ih =>
      intro k σ1 hj hk hk2 h1 hrun
      refine hX _ _ _ _ _ _ _ ?_
      refine b_ge rfl (h1.en hT) (by omega) (by omega) (fun h => by omega) (fun h => ?_)
      refine g_letter hT h1 rfl h ?_
      refine g_isIn (fun h2 => ?_) (fun h2 => ?_)
      · refine ⟨fun h3 => absurd h3 (by decide +kernel), fun _ => ?_⟩
        have h9 := ih (k + 1) σ1 (by omega) (by omega) (by omega) h1 (by rw [hrun]; exact run_step h (kL_iff.mpr h2))
        rw [← nI_1 k] at h9
        exact h9
      · refine ⟨fun _ => ?_, fun h3 => absurd rfl h3⟩
        exact mid σ1 _ h1 (by rw [hrun, run_stop (fun z => h2 (kL_iff.mp z.2))])
  refine hX _ _ _ _ _ _ _ ?_
  refine g_skip hT hP (by omega) ?_
  intro σ1 h1
  rw [hb] at h1
  have h9 := loop1 _ b σ1 rfl (Nat.le_refl _) hs h1 rfl
  rw [← h1.2.1] at h9
  exact h9
theorem g_has_74 (hT : TX σ0 t n) (hP : PS σ0 σ p f dp) (hp : p ≤ n) (q1 : wB t n (sk t n p) [97, 110, 100] = true → ∀ σ', PS σ0 σ' (sk t n p + 3) f dp → Q (.inl (some (.int (nI 1)))) sh_10 σ') (q0 : ¬ wB t n (sk t n p) [97, 110, 100] = true → ∀ σ', PS σ0 σ' (sk t n p) f dp → Q (.inl (some (.int (nI 0)))) sh_10 σ') : mD (d + 3) 100 [.ref 0, .ref 1074] sh_10 σ Q := by
  have hn := hT.2.1
  have hs : sk t n p ≤ n := sk_le hp
  refine ⟨rfl, fun X hX => ?_⟩
  generalize hb : sk t n p = b at *
  have loop2 : ∀ j i σ1 v, 3 - i = j → i ≤ 3 → PS σ0 σ1 b f dp → v = nI (run kL t n b) → run kL t n b = b + 3 → (∀ k, k < i → t (b + k) = nI (List.getD [97, 110, 100] k 0)) → X 55 [some (.ref 0), some (.ref 1074), some (.int v), some (.int (nI i))] [] sh_10 σ1 0 0 := by
    intro j
    induction j with
    | zero =>
      intro i σ1 v hj hi h1 hv hrun hall
      refine hX _ _ _ _ _ _ _ ?_
      refine b_ge (b := 3) rfl rfl (by omega) (by omega) (fun h => ?_) (fun h => by omega)
      refine hX _ _ _ _ _ _ _ ?_
      refine ⟨Or.inr rfl, q1 (wB_iff.mpr ⟨hrun, fun k hk => hall k (by have hk : k < 3 := hk; omega)⟩) _ ?_⟩
      exact h1.at1 (by rw [hv, hrun])
    | succ j ih =>
      intro i σ1 v hj hi h1 hv hrun hall
      have hi2 : b + i < n := by
        have := run_le (P := kL) (t := t) hs
        omega
      refine hX _ _ _ _ _ _ _ ?_
      refine b_ge (b := 3) rfl rfl (by omega) (by omega) (fun h => by omega) (fun h => ?_)
      refine g_letter hT h1 (k := b + i) (by rw [h1.2.1, nI_add]) hi2 ?_
      refine ⟨vp_in_nI (n := i) (N := 3) h (by omega), ?_⟩
      refine ⟨fun h2 => ?_, fun h2 => ?_⟩
      · have h2 : t (b + i) = nI (List.getD [97, 110, 100] (nI i).toNatClampNeg 0) := h2
        rw [nI_clamp (by omega)] at h2
        refine hX _ _ _ _ _ _ _ ?_
        have h9 := ih (i + 1) σ1 v (by omega) (by omega) h1 hv hrun (fun k hk => by
          by_cases e : k = i
          · rw [e]; exact h2
          · exact hall k (by omega))
        rw [← nI_1 i] at h9
        exact h9
      · have h2 : ¬ t (b + i) = nI (List.getD [97, 110, 100] (nI i).toNatClampNeg 0) := h2
        rw [nI_clamp (by omega)] at h2
        exact ⟨Or.inl rfl, q0 (fun z => h2 ((wB_iff.mp z).2 i h)) σ1 h1⟩
  have mid : ∀ σ1 v, PS σ0 σ1 b f dp → v = nI (run kL t n b) → X 38 [some (.ref 0), some (.ref 1074), some (.int v), none] [] sh_10 σ1 0 0 := by
    intro σ1 v h1 hv
    have hle := run_le (P := kL) (t := t) hs
    have hge := run_ge (P := kL) (t := t) (n := n) (p := b)
    refine hX _ _ _ _ _ _ _ ?_
    refine b_eq (a := run kL t n b - b) (b := 3) (by rw [hv, h1.2.1, nI_sub hge]) rfl (by omega) (by omega) (fun h => ?_) (fun h => ?_)
    · refine hX _ _ _ _ _ _ _ ?_
      exact loop2 _ 0 σ1 v rfl (by omega) h1 hv (by omega) (fun k hk => by omega)
    · exact ⟨Or.inl rfl, q0 (fun z => by have z1 : run kL t n b = b + 3 := (wB_iff.mp z).1; omega) σ1 h1⟩
  have loop1 : ∀ j k σ1, n - k = j → b ≤ k → k ≤ n → PS σ0 σ1 b f dp → run kL t n b = run kL t n k → X 9 [some (.ref 0), some (.ref 1074), some (.int (nI k)), none] [] sh_10 σ1 0 0 := by
    intro j
    induction j with
    | zero =>
      intro k σ1 hj hk hk2 h1 hrun
      refine hX _ _ _ _ _ _ _ ?_
      refine b_ge rfl (h1.en hT) (by omega) (by omega) (fun h => ?_) (fun h => by omega)
      exact mid σ1 _ h1 (by rw [hrun, run_stop (by omega)])
    | succ j ih =>
      intro k σ1 hj hk hk2 h1 hrun
      refine hX _ _ _ _ _ _ _ ?_
      refine b_ge rfl (h1.en hT) (by omega) (by omega) (fun h => by omega) (fun h => ?_)
      refine g_letter hT h1 rfl h ?_
      refine g_isIn (fun h2 => ?_) (fun h2 => ?_)
      · refine ⟨fun h3 => absurd h3 (by decide +kernel), fun _ => ?_⟩
        have h9 := ih (k + 1) σ1 (by omega) (by omega) (by omega) h1 (by rw [hrun]; exact run_step h (kL_iff.mpr h2))
        rw [← nI_1 k] at h9
        exact h9
      · refine ⟨fun _ => ?_, fun h3 => absurd rfl h3⟩
        exact mid σ1 _ h1 (by rw [hrun, run_stop (fun z => h2 (kL_iff.mp z.2))])
  refine hX _ _ _ _ _ _ _ ?_
  refine g_skip hT hP (by omega) ?_
  intro σ1 h1
  rw [hb] at h1
  have h9 := loop1 _ b σ1 rfl (Nat.le_refl _) hs h1 rfl
  rw [← h1.2.1] at h9
  exact h9
theorem g_has_75 (hT : TX σ0 t n) (hP : PS σ0 σ p f dp) (hp : p ≤ n) (q1 : wB t n (sk t n p) [111, 114] = true → ∀ σ', PS σ0 σ' (sk t n p + 2) f dp → Q (.inl (some (.int (nI 1)))) sh_10 σ') (q0 : ¬ wB t n (sk t n p) [111, 114] = true → ∀ σ', PS σ0 σ' (sk t n p) f dp → Q (.inl (some (.int (nI 0)))) sh_10 σ') : mD (d + 3) 100 [.ref 0, .ref 1075] sh_10 σ Q := by
  have hn := hT.2.1
  have hs : sk t n p ≤ n := sk_le hp
  refine ⟨rfl, fun X hX => ?_⟩
  generalize hb : sk t n p = b at *
  have loop2 : ∀ j i σ1 v, 2 - i = j → i ≤ 2 → PS σ0 σ1 b f dp → v = nI (run kL t n b) → run kL t n b = b + 2 → (∀ k, k < i → t (b + k) = nI (List.getD [111, 114] k 0)) → X 55 [some (.ref 0), some (.ref 1075), some (.int v), some (.int (nI i))] [] sh_10 σ1 0 0 := by
    intro j
    induction j with
    | zero =>
      intro i σ1 v hj hi h1 hv hrun hall
      refine hX _ _ _ _ _ _ _ ?_
      refine b_ge (b := 2) rfl rfl (by omega) (by omega) (fun h => ?_) (fun h => by omega)
      refine hX _ _ _ _ _ _ _ ?_
      refine ⟨Or.inr rfl, q1 (wB_iff.mpr ⟨hrun, fun k hk => hall k (by have hk : k < 2 := hk; omega)⟩) _ ?_⟩
      exact h1.at1 (by rw [hv, hrun])
    | succ j ih =>
      intro i σ1 v hj hi h1 hv hrun hall
      have hi2 : b + i < n := by
        have := run_le (P := kL) (t := t) hs
        omega
      refine hX _ _ _ _ _ _ _ ?_
      refine b_ge (b := 2) rfl rfl (by omega) (by omega) (fun h => by omega) (fun h => ?_)
      refine g_letter hT h1 (k := b + i) (by rw [h1.2.1, nI_add]) hi2 ?_
      refine ⟨vp_in_nI (n := i) (N := 2) h (by omega), ?_⟩
      refine ⟨fun h2 => ?_, fun h2 => ?_⟩
      · have h2 : t (b + i) = nI (List.getD [111, 114] (nI i).toNatClampNeg 0) := h2
        rw [nI_clamp (by omega)] at h2
        refine hX _ _ _ _ _ _ _ ?_
        have h9 := ih (i + 1) σ1 v (by omega) (by omega) h1 hv hrun (fun k hk => by
          by_cases e : k = i
          · rw [e]; exact h2
          · exact hall k (by omega))
        rw [← nI_1 i] at h9
        exact h9
      · have h2 : ¬ t (b + i) = nI (List.getD [111, 114] (nI i).toNatClampNeg 0) := h2
        rw [nI_clamp (by omega)] at h2
        exact ⟨Or.inl rfl, q0 (fun z => h2 ((wB_iff.mp z).2 i h)) σ1 h1⟩
  have mid : ∀ σ1 v, PS σ0 σ1 b f dp → v = nI (run kL t n b) → X 38 [some (.ref 0), some (.ref 1075), some (.int v), none] [] sh_10 σ1 0 0 := by
    intro σ1 v h1 hv
    have hle := run_le (P := kL) (t := t) hs
    have hge := run_ge (P := kL) (t := t) (n := n) (p := b)
    refine hX _ _ _ _ _ _ _ ?_
    refine b_eq (a := run kL t n b - b) (b := 2) (by rw [hv, h1.2.1, nI_sub hge]) rfl (by omega) (by omega) (fun h => ?_) (fun h => ?_)
    · refine hX _ _ _ _ _ _ _ ?_
      exact loop2 _ 0 σ1 v rfl (by omega) h1 hv (by omega) (fun k hk => by omega)
    · exact ⟨Or.inl rfl, q0 (fun z => by have z1 : run kL t n b = b + 2 := (wB_iff.mp z).1; omega) σ1 h1⟩
  have loop1 : ∀ j k σ1, n - k = j → b ≤ k → k ≤ n → PS σ0 σ1 b f dp → run kL t n b = run kL t n k → X 9 [some (.ref 0), some (.ref 1075), some (.int (nI k)), none] [] sh_10 σ1 0 0 := by
    intro j
    induction j with
    | zero =>
      intro k σ1 hj hk hk2 h1 hrun
      refine hX _ _ _ _ _ _ _ ?_
      refine b_ge rfl (h1.en hT) (by omega) (by omega) (fun h => ?_) (fun h => by omega)
      exact mid σ1 _ h1 (by rw [hrun, run_stop (by omega)])
    | succ j ih =>
      intro k σ1 hj hk hk2 h1 hrun
      refine hX _ _ _ _ _ _ _ ?_
      refine b_ge rfl (h1.en hT) (by omega) (by omega) (fun h => by omega) (fun h => ?_)
      refine g_letter hT h1 rfl h ?_
      refine g_isIn (fun h2 => ?_) (fun h2 => ?_)
      · refine ⟨fun h3 => absurd h3 (by decide +kernel), fun _ => ?_⟩
        have h9 := ih (k + 1) σ1 (by omega) (by omega) (by omega) h1 (by rw [hrun]; exact run_step h (kL_iff.mpr h2))
        rw [← nI_1 k] at h9
        exact h9
      · refine ⟨fun _ => ?_, fun h3 => absurd rfl h3⟩
        exact mid σ1 _ h1 (by rw [hrun, run_stop (fun z => h2 (kL_iff.mp z.2))])
  refine hX _ _ _ _ _ _ _ ?_
  refine g_skip hT hP (by omega) ?_
  intro σ1 h1
  rw [hb] at h1
  have h9 := loop1 _ b σ1 rfl (Nat.le_refl _) hs h1 rfl
  rw [← h1.2.1] at h9
  exact h9
theorem g_has_76 (hT : TX σ0 t n) (hP : PS σ0 σ p f dp) (hp : p ≤ n) (q1 : wB t n (sk t n p) [97, 116] = true → ∀ σ', PS σ0 σ' (sk t n p + 2) f dp → Q (.inl (some (.int (nI 1)))) sh_10 σ') (q0 : ¬ wB t n (sk t n p) [97, 116] = true → ∀ σ', PS σ0 σ' (sk t n p) f dp → Q (.inl (some (.int (nI 0)))) sh_10 σ') : mD (d + 3) 100 [.ref 0, .ref 1076] sh_10 σ Q := by
  have hn := hT.2.1
  have hs : sk t n p ≤ n := sk_le hp
  refine ⟨rfl, fun X hX => ?_⟩
  generalize hb : sk t n p = b at *
  have loop2 : ∀ j i σ1 v, 2 - i = j → i ≤ 2 → PS σ0 σ1 b f dp → v = nI (run kL t n b) → run kL t n b = b + 2 → (∀ k, k < i → t (b + k) = nI (List.getD [97, 116] k 0)) → X 55 [some (.ref 0), some (.ref 1076), some (.int v), some (.int (nI i))] [] sh_10 σ1 0 0 := by
    intro j
    induction j with
    | zero =>
      intro i σ1 v hj hi h1 hv hrun hall
      refine hX _ _ _ _ _ _ _ ?_
      refine b_ge (b := 2) rfl rfl (by omega) (by omega) (fun h => ?_) (fun h => by omega)
      refine hX _ _ _ _ _ _ _ ?_
      refine ⟨Or.inr rfl, q1 (wB_iff.mpr ⟨hrun, fun k hk => hall k (by have hk : k < 2 := hk; omega)⟩) _ ?_⟩
      exact h1.at1 (by rw [hv, hrun])
    | succ j ih =>
      intro i σ1 v hj hi h1 hv hrun hall
      have hi2 : b + i < n := by
        have := run_le (P := kL) (t := t) hs
        omega
      refine hX _ _ _ _ _ _ _ ?_
      refine b_ge (b := 2) rfl rfl (by omega) (by omega) (fun h => by omega) (fun h => ?_)
      refine g_letter hT h1 (k := b + i) (by rw [h1.2.1, nI_add]) hi2 ?_
      refine ⟨vp_in_nI (n := i) (N := 2) h (by omega), ?_⟩
      refine ⟨fun h2 => ?_, fun h2 => ?_⟩
      · have h2 : t (b + i) = nI (List.getD [97, 116] (nI i).toNatClampNeg 0) := h2
        rw [nI_clamp (by omega)] at h2
        refine hX _ _ _ _ _ _ _ ?_
        have h9 := ih (i + 1) σ1 v (by omega) (by omega) h1 hv hrun (fun k hk => by
          by_cases e : k = i
          · rw [e]; exact h2
          · exact hall k (by omega))
        rw [← nI_1 i] at h9
        exact h9
      · have h2 : ¬ t (b + i) = nI (List.getD [97, 116] (nI i).toNatClampNeg 0) := h2
        rw [nI_clamp (by omega)] at h2
        exact ⟨Or.inl rfl, q0 (fun z => h2 ((wB_iff.mp z).2 i h)) σ1 h1⟩
  have mid : ∀ σ1 v, PS σ0 σ1 b f dp → v = nI (run kL t n b) → X 38 [some (.ref 0), some (.ref 1076), some (.int v), none] [] sh_10 σ1 0 0 := by
    intro σ1 v h1 hv
    have hle := run_le (P := kL) (t := t) hs
    have hge := run_ge (P := kL) (t := t) (n := n) (p := b)
    refine hX _ _ _ _ _ _ _ ?_
    refine b_eq (a := run kL t n b - b) (b := 2) (by rw [hv, h1.2.1, nI_sub hge]) rfl (by omega) (by omega) (fun h => ?_) (fun h => ?_)
    · refine hX _ _ _ _ _ _ _ ?_
      exact loop2 _ 0 σ1 v rfl (by omega) h1 hv (by omega) (fun k hk => by omega)
    · exact ⟨Or.inl rfl, q0 (fun z => by have z1 : run kL t n b = b + 2 := (wB_iff.mp z).1; omega) σ1 h1⟩
  have loop1 : ∀ j k σ1, n - k = j → b ≤ k → k ≤ n → PS σ0 σ1 b f dp → run kL t n b = run kL t n k → X 9 [some (.ref 0), some (.ref 1076), some (.int (nI k)), none] [] sh_10 σ1 0 0 := by
    intro j
    induction j with
    | zero =>
      intro k σ1 hj hk hk2 h1 hrun
      refine hX _ _ _ _ _ _ _ ?_
      refine b_ge rfl (h1.en hT) (by omega) (by omega) (fun h => ?_) (fun h => by omega)
      exact mid σ1 _ h1 (by rw [hrun, run_stop (by omega)])
    | succ j ih =>
      intro k σ1 hj hk hk2 h1 hrun
      refine hX _ _ _ _ _ _ _ ?_
      refine b_ge rfl (h1.en hT) (by omega) (by omega) (fun h => by omega) (fun h => ?_)
      refine g_letter hT h1 rfl h ?_
      refine g_isIn (fun h2 => ?_) (fun h2 => ?_)
      · refine ⟨fun h3 => absurd h3 (by decide +kernel), fun _ => ?_⟩
        have h9 := ih (k + 1) σ1 (by omega) (by omega) (by omega) h1 (by rw [hrun]; exact run_step h (kL_iff.mpr h2))
        rw [← nI_1 k] at h9
        exact h9
      · refine ⟨fun _ => ?_, fun h3 => absurd rfl h3⟩
        exact mid σ1 _ h1 (by rw [hrun, run_stop (fun z => h2 (kL_iff.mp z.2))])
  refine hX _ _ _ _ _ _ _ ?_
  refine g_skip hT hP (by omega) ?_
  intro σ1 h1
  rw [hb] at h1
  have h9 := loop1 _ b σ1 rfl (Nat.le_refl _) hs h1 rfl
  rw [← h1.2.1] at h9
  exact h9
theorem g_has_77 (hT : TX σ0 t n) (hP : PS σ0 σ p f dp) (hp : p ≤ n) (q1 : wB t n (sk t n p) [109, 105, 120] = true → ∀ σ', PS σ0 σ' (sk t n p + 3) f dp → Q (.inl (some (.int (nI 1)))) sh_10 σ') (q0 : ¬ wB t n (sk t n p) [109, 105, 120] = true → ∀ σ', PS σ0 σ' (sk t n p) f dp → Q (.inl (some (.int (nI 0)))) sh_10 σ') : mD (d + 3) 100 [.ref 0, .ref 1077] sh_10 σ Q := by
  have hn := hT.2.1
  have hs : sk t n p ≤ n := sk_le hp
  refine ⟨rfl, fun X hX => ?_⟩
  generalize hb : sk t n p = b at *
  have loop2 : ∀ j i σ1 v, 3 - i = j → i ≤ 3 → PS σ0 σ1 b f dp → v = nI (run kL t n b) → run kL t n b = b + 3 → (∀ k, k < i → t (b + k) = nI (List.getD [109, 105, 120] k 0)) → X 55 [some (.ref 0), some (.ref 1077), some (.int v), some (.int (nI i))] [] sh_10 σ1 0 0 := by
    intro j
    induction j with
    | zero =>
      intro i σ1 v hj hi h1 hv hrun hall
      refine hX _ _ _ _ _ _ _ ?_
      refine b_ge (b := 3) rfl rfl (by omega) (by omega) (fun h => ?_) (fun h => by omega)
      refine hX _ _ _ _ _ _ _ ?_
      refine ⟨Or.inr rfl, q1 (wB_iff.mpr ⟨hrun, fun k hk => hall k (by have hk : k < 3 := hk; omega)⟩) _ ?_⟩
      exact h1.at1 (by rw [hv, hrun])
    | succ j ih =>
      intro i σ1 v hj hi h1 hv hrun hall
      have hi2 : b + i < n := by
        have := run_le (P := kL) (t := t) hs
        omega
      refine hX _ _ _ _ _ _ _ ?_
      refine b_ge (b := 3) rfl rfl (by omega) (by omega) (fun h => by omega) (fun h => ?_)
      refine g_letter hT h1 (k := b + i) (by rw [h1.2.1, nI_add]) hi2 ?_
      refine ⟨vp_in_nI (n := i) (N := 3) h (by omega), ?_⟩
      refine ⟨fun h2 => ?_, fun h2 => ?_⟩
      · have h2 : t (b + i) = nI (List.getD [109, 105, 120] (nI i).toNatClampNeg 0) := h2
        rw [nI_clamp (by omega)] at h2
        refine hX _ _ _ _ _ _ _ ?_
        have h9 := ih (i + 1) σ1 v (by omega) (by omega) h1 hv hrun (fun k hk => by
          by_cases e : k = i
          · rw [e]; exact h2
          · exact hall k (by omega))
        rw [← nI_1 i] at h9
        exact h9
      · have h2 : ¬ t (b + i) = nI (List.getD [109, 105, 120] (nI i).toNatClampNeg 0) := h2
        rw [nI_clamp (by omega)] at h2
        exact ⟨Or.inl rfl, q0 (fun z => h2 ((wB_iff.mp z).2 i h)) σ1 h1⟩
  have mid : ∀ σ1 v, PS σ0 σ1 b f dp → v = nI (run kL t n b) → X 38 [some (.ref 0), some (.ref 1077), some (.int v), none] [] sh_10 σ1 0 0 := by
    intro σ1 v h1 hv
    have hle := run_le (P := kL) (t := t) hs
    have hge := run_ge (P := kL) (t := t) (n := n) (p := b)
    refine hX _ _ _ _ _ _ _ ?_
    refine b_eq (a := run kL t n b - b) (b := 3) (by rw [hv, h1.2.1, nI_sub hge]) rfl (by omega) (by omega) (fun h => ?_) (fun h => ?_)
    · refine hX _ _ _ _ _ _ _ ?_
      exact loop2 _ 0 σ1 v rfl (by omega) h1 hv (by omega) (fun k hk => by omega)
    · exact ⟨Or.inl rfl, q0 (fun z => by have z1 : run kL t n b = b + 3 := (wB_iff.mp z).1; omega) σ1 h1⟩
  have loop1 : ∀ j k σ1, n - k = j → b ≤ k → k ≤ n → PS σ0 σ1 b f dp → run kL t n b = run kL t n k → X 9 [some (.ref 0), some (.ref 1077), some (.int (nI k)), none] [] sh_10 σ1 0 0 := by
    intro j
    induction j with
    | zero =>
      intro k σ1 hj hk hk2 h1 hrun
      refine hX _ _ _ _ _ _ _ ?_
      refine b_ge rfl (h1.en hT) (by omega) (by omega) (fun h => ?_) (fun h => by omega)
      exact mid σ1 _ h1 (by rw [hrun, run_stop (by omega)])
    | succ j ih =>
      intro k σ1 hj hk hk2 h1 hrun
      refine hX _ _ _ _ _ _ _ ?_
      refine b_ge rfl (h1.en hT) (by omega) (by omega) (fun h => by omega) (fun h => ?_)
      refine g_letter hT h1 rfl h ?_
      refine g_isIn (fun h2 => ?_) (fun h2 => ?_)
      · refine ⟨fun h3 => absurd h3 (by decide +kernel), fun _ => ?_⟩
        have h9 := ih (k + 1) σ1 (by omega) (by omega) (by omega) h1 (by rw [hrun]; exact run_step h (kL_iff.mpr h2))
        rw [← nI_1 k] at h9
        exact h9
      · refine ⟨fun _ => ?_, fun h3 => absurd rfl h3⟩
        exact mid σ1 _ h1 (by rw [hrun, run_stop (fun z => h2 (kL_iff.mp z.2))])
  refine hX _ _ _ _ _ _ _ ?_
  refine g_skip hT hP (by omega) ?_
  intro σ1 h1
  rw [hb] at h1
  have h9 := loop1 _ b σ1 rfl (Nat.le_refl _) hs h1 rfl
  rw [← h1.2.1] at h9
  exact h9
theorem g_has_78 (hT : TX σ0 t n) (hP : PS σ0 σ p f dp) (hp : p ≤ n) (q1 : wB t n (sk t n p) [99, 97, 114, 116] = true → ∀ σ', PS σ0 σ' (sk t n p + 4) f dp → Q (.inl (some (.int (nI 1)))) sh_10 σ') (q0 : ¬ wB t n (sk t n p) [99, 97, 114, 116] = true → ∀ σ', PS σ0 σ' (sk t n p) f dp → Q (.inl (some (.int (nI 0)))) sh_10 σ') : mD (d + 3) 100 [.ref 0, .ref 1078] sh_10 σ Q := by
  have hn := hT.2.1
  have hs : sk t n p ≤ n := sk_le hp
  refine ⟨rfl, fun X hX => ?_⟩
  generalize hb : sk t n p = b at *
  have loop2 : ∀ j i σ1 v, 4 - i = j → i ≤ 4 → PS σ0 σ1 b f dp → v = nI (run kL t n b) → run kL t n b = b + 4 → (∀ k, k < i → t (b + k) = nI (List.getD [99, 97, 114, 116] k 0)) → X 55 [some (.ref 0), some (.ref 1078), some (.int v), some (.int (nI i))] [] sh_10 σ1 0 0 := by
    intro j
    induction j with
    | zero =>
      intro i σ1 v hj hi h1 hv hrun hall
      refine hX _ _ _ _ _ _ _ ?_
      refine b_ge (b := 4) rfl rfl (by omega) (by omega) (fun h => ?_) (fun h => by omega)
      refine hX _ _ _ _ _ _ _ ?_
      refine ⟨Or.inr rfl, q1 (wB_iff.mpr ⟨hrun, fun k hk => hall k (by have hk : k < 4 := hk; omega)⟩) _ ?_⟩
      exact h1.at1 (by rw [hv, hrun])
    | succ j ih =>
      intro i σ1 v hj hi h1 hv hrun hall
      have hi2 : b + i < n := by
        have := run_le (P := kL) (t := t) hs
        omega
      refine hX _ _ _ _ _ _ _ ?_
      refine b_ge (b := 4) rfl rfl (by omega) (by omega) (fun h => by omega) (fun h => ?_)
      refine g_letter hT h1 (k := b + i) (by rw [h1.2.1, nI_add]) hi2 ?_
      refine ⟨vp_in_nI (n := i) (N := 4) h (by omega), ?_⟩
      refine ⟨fun h2 => ?_, fun h2 => ?_⟩
      · have h2 : t (b + i) = nI (List.getD [99, 97, 114, 116] (nI i).toNatClampNeg 0) := h2
        rw [nI_clamp (by omega)] at h2
        refine hX _ _ _ _ _ _ _ ?_
        have h9 := ih (i + 1) σ1 v (by omega) (by omega) h1 hv hrun (fun k hk => by
          by_cases e : k = i
          · rw [e]; exact h2
          · exact hall k (by omega))
        rw [← nI_1 i] at h9
        exact h9
      · have h2 : ¬ t (b + i) = nI (List.getD [99, 97, 114, 116] (nI i).toNatClampNeg 0) := h2
        rw [nI_clamp (by omega)] at h2
        exact ⟨Or.inl rfl, q0 (fun z => h2 ((wB_iff.mp z).2 i h)) σ1 h1⟩
  have mid : ∀ σ1 v, PS σ0 σ1 b f dp → v = nI (run kL t n b) → X 38 [some (.ref 0), some (.ref 1078), some (.int v), none] [] sh_10 σ1 0 0 := by
    intro σ1 v h1 hv
    have hle := run_le (P := kL) (t := t) hs
    have hge := run_ge (P := kL) (t := t) (n := n) (p := b)
    refine hX _ _ _ _ _ _ _ ?_
    refine b_eq (a := run kL t n b - b) (b := 4) (by rw [hv, h1.2.1, nI_sub hge]) rfl (by omega) (by omega) (fun h => ?_) (fun h => ?_)
    · refine hX _ _ _ _ _ _ _ ?_
      exact loop2 _ 0 σ1 v rfl (by omega) h1 hv (by omega) (fun k hk => by omega)
    · exact ⟨Or.inl rfl, q0 (fun z => by have z1 : run kL t n b = b + 4 := (wB_iff.mp z).1; omega) σ1 h1⟩
  have loop1 : ∀ j k σ1, n - k = j → b ≤ k → k ≤ n → PS σ0 σ1 b f dp → run kL t n b = run kL t n k → X 9 [some (.ref 0), some (.ref 1078), some (.int (nI k)), none] [] sh_10 σ1 0 0 := by
    intro j
    induction j with
    | zero =>
      intro k σ1 hj hk hk2 h1 hrun
      refine hX _ _ _ _ _ _ _ ?_
      refine b_ge rfl (h1.en hT) (by omega) (by omega) (fun h => ?_) (fun h => by omega)
      exact mid σ1 _ h1 (by rw [hrun, run_stop (by omega)])
    | succ j ih =>
      intro k σ1 hj hk hk2 h1 hrun
      refine hX _ _ _ _ _ _ _ ?_
      refine b_ge rfl (h1.en hT) (by omega) (by omega) (fun h => by omega) (fun h => ?_)
      refine g_letter hT h1 rfl h ?_
      refine g_isIn (fun h2 => ?_) (fun h2 => ?_)
      · refine ⟨fun h3 => absurd h3 (by decide +kernel), fun _ => ?_⟩
        have h9 := ih (k + 1) σ1 (by omega) (by omega) (by omega) h1 (by rw [hrun]; exact run_step h (kL_iff.mpr h2))
        rw [← nI_1 k] at h9
        exact h9
      · refine ⟨fun _ => ?_, fun h3 => absurd rfl h3⟩
        exact mid σ1 _ h1 (by rw [hrun, run_stop (fun z => h2 (kL_iff.mp z.2))])
  refine hX _ _ _ _ _ _ _ ?_
  refine g_skip hT hP (by omega) ?_
  intro σ1 h1
  rw [hb] at h1
  have h9 := loop1 _ b σ1 rfl (Nat.le_refl _) hs h1 rfl
  rw [← h1.2.1] at h9
  exact h9
theorem g_has_79 (hT : TX σ0 t n) (hP : PS σ0 σ p f dp) (hp : p ≤ n) (q1 : wB t n (sk t n p) [104, 111, 108, 100] = true → ∀ σ', PS σ0 σ' (sk t n p + 4) f dp → Q (.inl (some (.int (nI 1)))) sh_10 σ') (q0 : ¬ wB t n (sk t n p) [104, 111, 108, 100] = true → ∀ σ', PS σ0 σ' (sk t n p) f dp → Q (.inl (some (.int (nI 0)))) sh_10 σ') : mD (d + 3) 100 [.ref 0, .ref 1079] sh_10 σ Q := by
  have hn := hT.2.1
  have hs : sk t n p ≤ n := sk_le hp
  refine ⟨rfl, fun X hX => ?_⟩
  generalize hb : sk t n p = b at *
  have loop2 : ∀ j i σ1 v, 4 - i = j → i ≤ 4 → PS σ0 σ1 b f dp → v = nI (run kL t n b) → run kL t n b = b + 4 → (∀ k, k < i → t (b + k) = nI (List.getD [104, 111, 108, 100] k 0)) → X 55 [some (.ref 0), some (.ref 1079), some (.int v), some (.int (nI i))] [] sh_10 σ1 0 0 := by
    intro j
    induction j with
    | zero =>
      intro i σ1 v hj hi h1 hv hrun hall
      refine hX _ _ _ _ _ _ _ ?_
      refine b_ge (b := 4) rfl rfl (by omega) (by omega) (fun h => ?_) (fun h => by omega)
      refine hX _ _ _ _ _ _ _ ?_
      refine ⟨Or.inr rfl, q1 (wB_iff.mpr ⟨hrun, fun k hk => hall k (by have hk : k < 4 := hk; omega)⟩) _ ?_⟩
      exact h1.at1 (by rw [hv, hrun])
    | succ j ih =>
      intro i σ1 v hj hi h1 hv hrun hall
      have hi2 : b + i < n := by
        have := run_le (P := kL) (t := t) hs
        omega
      refine hX _ _ _ _ _ _ _ ?_
      refine b_ge (b := 4) rfl rfl (by omega) (by omega) (fun h => by omega) (fun h => ?_)
      refine g_letter hT h1 (k := b + i) (by rw [h1.2.1, nI_add]) hi2 ?_
      refine ⟨vp_in_nI (n := i) (N := 4) h (by omega), ?_⟩
      refine ⟨fun h2 => ?_, fun h2 => ?_⟩
      · have h2 : t (b + i) = nI (List.getD [104, 111, 108, 100] (nI i).toNatClampNeg 0) := h2
        rw [nI_clamp (by omega)] at h2
        refine hX _ _ _ _ _ _ _ ?_
        have h9 := ih (i + 1) σ1 v (by omega) (by omega) h1 hv hrun (fun k hk => by
          by_cases e : k = i
          · rw [e]; exact h2
          · exact hall k (by omega))
        rw [← nI_1 i] at h9
        exact h9
      · have h2 : ¬ t (b + i) = nI (List.getD [104, 111, 108, 100] (nI i).toNatClampNeg 0) := h2
        rw [nI_clamp (by omega)] at h2
        exact ⟨Or.inl rfl, q0 (fun z => h2 ((wB_iff.mp z).2 i h)) σ1 h1⟩
  have mid : ∀ σ1 v, PS σ0 σ1 b f dp → v = nI (run kL t n b) → X 38 [some (.ref 0), some (.ref 1079), some (.int v), none] [] sh_10 σ1 0 0 := by
    intro σ1 v h1 hv
    have hle := run_le (P := kL) (t := t) hs
    have hge := run_ge (P := kL) (t := t) (n := n) (p := b)
    refine hX _ _ _ _ _ _ _ ?_
    refine b_eq (a := run kL t n b - b) (b := 4) (by rw [hv, h1.2.1, nI_sub hge]) rfl (by omega) (by omega) (fun h => ?_) (fun h => ?_)
    · refine hX _ _ _ _ _ _ _ ?_
      exact loop2 _ 0 σ1 v rfl (by omega) h1 hv (by omega) (fun k hk => by omega)
    · exact ⟨Or.inl rfl, q0 (fun z => by have z1 : run kL t n b = b + 4 := (wB_iff.mp z).1; omega) σ1 h1⟩
  have loop1 : ∀ j k σ1, n - k = j → b ≤ k → k ≤ n → PS σ0 σ1 b f dp → run kL t n b = run kL t n k → X 9 [some (.ref 0), some (.ref 1079), some (.int (nI k)), none] [] sh_10 σ1 0 0 := by
    intro j
    induction j with
    | zero =>
      intro k σ1 hj hk hk2 h1 hrun
      refine hX _ _ _ _ _ _ _ ?_
      refine b_ge rfl (h1.en hT) (by omega) (by omega) (fun h => ?_) (fun h => by omega)
      exact mid σ1 _ h1 (by rw [hrun, run_stop (by omega)])
    | succ j ih =>
      intro k σ1 hj hk hk2 h1 hrun
      refine hX _ _ _ _ _ _ _ ?_
      refine b_ge rfl (h1.en hT) (by omega) (by omega) (fun h => by omega) (fun h => ?_)
      refine g_letter hT h1 rfl h ?_
      refine g_isIn (fun h2 => ?_) (fun h2 => ?_)
      · refine ⟨fun h3 => absurd h3 (by decide +kernel), fun _ => ?_⟩
        have h9 := ih (k + 1) σ1 (by omega) (by omega) (by omega) h1 (by rw [hrun]; exact run_step h (kL_iff.mpr h2))
        rw [← nI_1 k] at h9
        exact h9
      · refine ⟨fun _ => ?_, fun h3 => absurd rfl h3⟩
        exact mid σ1 _ h1 (by rw [hrun, run_stop (fun z => h2 (kL_iff.mp z.2))])
  refine hX _ _ _ _ _ _ _ ?_
  refine g_skip hT hP (by omega) ?_
  intro σ1 h1
  rw [hb] at h1
  have h9 := loop1 _ b σ1 rfl (Nat.le_refl _) hs h1 rfl
  rw [← h1.2.1] at h9
  exact h9
theorem g_has_80 (hT : TX σ0 t n) (hP : PS σ0 σ p f dp) (hp : p ≤ n) (q1 : wB t n (sk t n p) [103, 111, 101, 115] = true → ∀ σ', PS σ0 σ' (sk t n p + 4) f dp → Q (.inl (some (.int (nI 1)))) sh_10 σ') (q0 : ¬ wB t n (sk t n p) [103, 111, 101, 115] = true → ∀ σ', PS σ0 σ' (sk t n p) f dp → Q (.inl (some (.int (nI 0)))) sh_10 σ') : mD (d + 3) 100 [.ref 0, .ref 1080] sh_10 σ Q := by
  have hn := hT.2.1
  have hs : sk t n p ≤ n := sk_le hp
  refine ⟨rfl, fun X hX => ?_⟩
  generalize hb : sk t n p = b at *
  have loop2 : ∀ j i σ1 v, 4 - i = j → i ≤ 4 → PS σ0 σ1 b f dp → v = nI (run kL t n b) → run kL t n b = b + 4 → (∀ k, k < i → t (b + k) = nI (List.getD [103, 111, 101, 115] k 0)) → X 55 [some (.ref 0), some (.ref 1080), some (.int v), some (.int (nI i))] [] sh_10 σ1 0 0 := by
    intro j
    induction j with
    | zero =>
      intro i σ1 v hj hi h1 hv hrun hall
      refine hX _ _ _ _ _ _ _ ?_
      refine b_ge (b := 4) rfl rfl (by omega) (by omega) (fun h => ?_) (fun h => by omega)
      refine hX _ _ _ _ _ _ _ ?_
      refine ⟨Or.inr rfl, q1 (wB_iff.mpr ⟨hrun, fun k hk => hall k (by have hk : k < 4 := hk; omega)⟩) _ ?_⟩
      exact h1.at1 (by rw [hv, hrun])
    | succ j ih =>
      intro i σ1 v hj hi h1 hv hrun hall
      have hi2 : b + i < n := by
        have := run_le (P := kL) (t := t) hs
        omega
      refine hX _ _ _ _ _ _ _ ?_
      refine b_ge (b := 4) rfl rfl (by omega) (by omega) (fun h => by omega) (fun h => ?_)
      refine g_letter hT h1 (k := b + i) (by rw [h1.2.1, nI_add]) hi2 ?_
      refine ⟨vp_in_nI (n := i) (N := 4) h (by omega), ?_⟩
      refine ⟨fun h2 => ?_, fun h2 => ?_⟩
      · have h2 : t (b + i) = nI (List.getD [103, 111, 101, 115] (nI i).toNatClampNeg 0) := h2
        rw [nI_clamp (by omega)] at h2
        refine hX _ _ _ _ _ _ _ ?_
        have h9 := ih (i + 1) σ1 v (by omega) (by omega) h1 hv hrun (fun k hk => by
          by_cases e : k = i
          · rw [e]; exact h2
          · exact hall k (by omega))
        rw [← nI_1 i] at h9
        exact h9
      · have h2 : ¬ t (b + i) = nI (List.getD [103, 111, 101, 115] (nI i).toNatClampNeg 0) := h2
        rw [nI_clamp (by omega)] at h2
        exact ⟨Or.inl rfl, q0 (fun z => h2 ((wB_iff.mp z).2 i h)) σ1 h1⟩
  have mid : ∀ σ1 v, PS σ0 σ1 b f dp → v = nI (run kL t n b) → X 38 [some (.ref 0), some (.ref 1080), some (.int v), none] [] sh_10 σ1 0 0 := by
    intro σ1 v h1 hv
    have hle := run_le (P := kL) (t := t) hs
    have hge := run_ge (P := kL) (t := t) (n := n) (p := b)
    refine hX _ _ _ _ _ _ _ ?_
    refine b_eq (a := run kL t n b - b) (b := 4) (by rw [hv, h1.2.1, nI_sub hge]) rfl (by omega) (by omega) (fun h => ?_) (fun h => ?_)
    · refine hX _ _ _ _ _ _ _ ?_
      exact loop2 _ 0 σ1 v rfl (by omega) h1 hv (by omega) (fun k hk => by omega)
    · exact ⟨Or.inl rfl, q0 (fun z => by have z1 : run kL t n b = b + 4 := (wB_iff.mp z).1; omega) σ1 h1⟩
  have loop1 : ∀ j k σ1, n - k = j → b ≤ k → k ≤ n → PS σ0 σ1 b f dp → run kL t n b = run kL t n k → X 9 [some (.ref 0), some (.ref 1080), some (.int (nI k)), none] [] sh_10 σ1 0 0 := by
    intro j
    induction j with
    | zero =>
      intro k σ1 hj hk hk2 h1 hrun
      refine hX _ _ _ _ _ _ _ ?_
      refine b_ge rfl (h1.en hT) (by omega) (by omega) (fun h => ?_) (fun h => by omega)
      exact mid σ1 _ h1 (by rw [hrun, run_stop (by omega)])
    | succ j ih =>
      intro k σ1 hj hk hk2 h1 hrun
      refine hX _ _ _ _ _ _ _ ?_
      refine b_ge rfl (h1.en hT) (by omega) (by omega) (fun h => by omega) (fun h => ?_)
      refine g_letter hT h1 rfl h ?_
      refine g_isIn (fun h2 => ?_) (fun h2 => ?_)
      · refine ⟨fun h3 => absurd h3 (by decide +kernel), fun _ => ?_⟩
        have h9 := ih (k + 1) σ1 (by omega) (by omega) (by omega) h1 (by rw [hrun]; exact run_step h (kL_iff.mpr h2))
        rw [← nI_1 k] at h9
        exact h9
      · refine ⟨fun _ => ?_, fun h3 => absurd rfl h3⟩
        exact mid σ1 _ h1 (by rw [hrun, run_stop (fun z => h2 (kL_iff.mp z.2))])
  refine hX _ _ _ _ _ _ _ ?_
  refine g_skip hT hP (by omega) ?_
  intro σ1 h1
  rw [hb] at h1
  have h9 := loop1 _ b σ1 rfl (Nat.le_refl _) hs h1 rfl
  rw [← h1.2.1] at h9
  exact h9
theorem g_has_81 (hT : TX σ0 t n) (hP : PS σ0 σ p f dp) (hp : p ≤ n) (q1 : wB t n (sk t n p) [115, 105, 101, 118, 101] = true → ∀ σ', PS σ0 σ' (sk t n p + 5) f dp → Q (.inl (some (.int (nI 1)))) sh_10 σ') (q0 : ¬ wB t n (sk t n p) [115, 105, 101, 118, 101] = true → ∀ σ', PS σ0 σ' (sk t n p) f dp → Q (.inl (some (.int (nI 0)))) sh_10 σ') : mD (d + 3) 100 [.ref 0, .ref 1081] sh_10 σ Q := by
  have hn := hT.2.1
  have hs : sk t n p ≤ n := sk_le hp
  refine ⟨rfl, fun X hX => ?_⟩
  generalize hb : sk t n p = b at *
  have loop2 : ∀ j i σ1 v, 5 - i = j → i ≤ 5 → PS σ0 σ1 b f dp → v = nI (run kL t n b) → run kL t n b = b + 5 → (∀ k, k < i → t (b + k) = nI (List.getD [115, 105, 101, 118, 101] k 0)) → X 55 [some (.ref 0), some (.ref 1081), some (.int v), some (.int (nI i))] [] sh_10 σ1 0 0 := by
    intro j
    induction j with
    | zero =>
      intro i σ1 v hj hi h1 hv hrun hall
      refine hX _ _ _ _ _ _ _ ?_
      refine b_ge (b := 5) rfl rfl (by omega) (by omega) (fun h => ?_) (fun h => by omega)
      refine hX _ _ _ _ _ _ _ ?_
      refine ⟨Or.inr rfl, q1 (wB_iff.mpr ⟨hrun, fun k hk => hall k (by have hk : k < 5 := hk; omega)⟩) _ ?_⟩
      exact h1.at1 (by rw [hv, hrun])
    | succ j ih =>
      intro i σ1 v hj hi h1 hv hrun hall
      have hi2 : b + i < n := by
        have := run_le (P := kL) (t := t) hs
        omega
      refine hX _ _ _ _ _ _ _ ?_
      refine b_ge (b := 5) rfl rfl (by omega) (by omega) (fun h => by omega) (fun h => ?_)
      refine g_letter hT h1 (k := b + i) (by rw [h1.2.1, nI_add]) hi2 ?_
      refine ⟨vp_in_nI (n := i) (N := 5) h (by omega), ?_⟩
      refine ⟨fun h2 => ?_, fun h2 => ?_⟩
      · have h2 : t (b + i) = nI (List.getD [115, 105, 101, 118, 101] (nI i).toNatClampNeg 0) := h2
        rw [nI_clamp (by omega)] at h2
        refine hX _ _ _ _ _ _ _ ?_
        have h9 := ih (i + 1) σ1 v (by omega) (by omega) h1 hv hrun (fun k hk => by
          by_cases e : k = i
          · rw [e]; exact h2
          · exact hall k (by omega))
        rw [← nI_1 i] at h9
        exact h9
      · have h2 : ¬ t (b + i) = nI (List.getD [115, 105, 101, 118, 101] (nI i).toNatClampNeg 0) := h2
        rw [nI_clamp (by omega)] at h2
        exact ⟨Or.inl rfl, q0 (fun z => h2 ((wB_iff.mp z).2 i h)) σ1 h1⟩
  have mid : ∀ σ1 v, PS σ0 σ1 b f dp → v = nI (run kL t n b) → X 38 [some (.ref 0), some (.ref 1081), some (.int v), none] [] sh_10 σ1 0 0 := by
    intro σ1 v h1 hv
    have hle := run_le (P := kL) (t := t) hs
    have hge := run_ge (P := kL) (t := t) (n := n) (p := b)
    refine hX _ _ _ _ _ _ _ ?_
    refine b_eq (a := run kL t n b - b) (b := 5) (by rw [hv, h1.2.1, nI_sub hge]) rfl (by omega) (by omega) (fun h => ?_) (fun h => ?_)
    · refine hX _ _ _ _ _ _ _ ?_
      exact loop2 _ 0 σ1 v rfl (by omega) h1 hv (by omega) (fun k hk => by omega)
    · exact ⟨Or.inl rfl, q0 (fun z => by have z1 : run kL t n b = b + 5 := (wB_iff.mp z).1; omega) σ1 h1⟩
  have loop1 : ∀ j k σ1, n - k = j → b ≤ k → k ≤ n → PS σ0 σ1 b f dp → run kL t n b = run kL t n k → X 9 [some (.ref 0), some (.ref 1081), some (.int (nI k)), none] [] sh_10 σ1 0 0 := by
    intro j
    induction j with
    | zero =>
      intro k σ1 hj hk hk2 h1 hrun
      refine hX _ _ _ _ _ _ _ ?_
      refine b_ge rfl (h1.en hT) (by omega) (by omega) (fun h => ?_) (fun h => by omega)
      exact mid σ1 _ h1 (by rw [hrun, run_stop (by omega)])
    | succ j ih =>
      intro k σ1 hj hk hk2 h1 hrun
      refine hX _ _ _ _ _ _ _ ?_
      refine b_ge rfl (h1.en hT) (by omega) (by omega) (fun h => by omega) (fun h => ?_)
      refine g_letter hT h1 rfl h ?_
      refine g_isIn (fun h2 => ?_) (fun h2 => ?_)
      · refine ⟨fun h3 => absurd h3 (by decide +kernel), fun _ => ?_⟩
        have h9 := ih (k + 1) σ1 (by omega) (by omega) (by omega) h1 (by rw [hrun]; exact run_step h (kL_iff.mpr h2))
        rw [← nI_1 k] at h9
        exact h9
      · refine ⟨fun _ => ?_, fun h3 => absurd rfl h3⟩
        exact mid σ1 _ h1 (by rw [hrun, run_stop (fun z => h2 (kL_iff.mp z.2))])
  refine hX _ _ _ _ _ _ _ ?_
  refine g_skip hT hP (by omega) ?_
  intro σ1 h1
  rw [hb] at h1
  have h9 := loop1 _ b σ1 rfl (Nat.le_refl _) hs h1 rfl
  rw [← h1.2.1] at h9
  exact h9
theorem g_has_82 (hT : TX σ0 t n) (hP : PS σ0 σ p f dp) (hp : p ≤ n) (q1 : wB t n (sk t n p) [99, 111, 110, 116, 114, 97, 99, 116] = true → ∀ σ', PS σ0 σ' (sk t n p + 8) f dp → Q (.inl (some (.int (nI 1)))) sh_10 σ') (q0 : ¬ wB t n (sk t n p) [99, 111, 110, 116, 114, 97, 99, 116] = true → ∀ σ', PS σ0 σ' (sk t n p) f dp → Q (.inl (some (.int (nI 0)))) sh_10 σ') : mD (d + 3) 100 [.ref 0, .ref 1082] sh_10 σ Q := by
  have hn := hT.2.1
  have hs : sk t n p ≤ n := sk_le hp
  refine ⟨rfl, fun X hX => ?_⟩
  generalize hb : sk t n p = b at *
  have loop2 : ∀ j i σ1 v, 8 - i = j → i ≤ 8 → PS σ0 σ1 b f dp → v = nI (run kL t n b) → run kL t n b = b + 8 → (∀ k, k < i → t (b + k) = nI (List.getD [99, 111, 110, 116, 114, 97, 99, 116] k 0)) → X 55 [some (.ref 0), some (.ref 1082), some (.int v), some (.int (nI i))] [] sh_10 σ1 0 0 := by
    intro j
    induction j with
    | zero =>
      intro i σ1 v hj hi h1 hv hrun hall
      refine hX _ _ _ _ _ _ _ ?_
      refine b_ge (b := 8) rfl rfl (by omega) (by omega) (fun h => ?_) (fun h => by omega)
      refine hX _ _ _ _ _ _ _ ?_
      refine ⟨Or.inr rfl, q1 (wB_iff.mpr ⟨hrun, fun k hk => hall k (by have hk : k < 8 := hk; omega)⟩) _ ?_⟩
      exact h1.at1 (by rw [hv, hrun])
    | succ j ih =>
      intro i σ1 v hj hi h1 hv hrun hall
      have hi2 : b + i < n := by
        have := run_le (P := kL) (t := t) hs
        omega
      refine hX _ _ _ _ _ _ _ ?_
      refine b_ge (b := 8) rfl rfl (by omega) (by omega) (fun h => by omega) (fun h => ?_)
      refine g_letter hT h1 (k := b + i) (by rw [h1.2.1, nI_add]) hi2 ?_
      refine ⟨vp_in_nI (n := i) (N := 8) h (by omega), ?_⟩
      refine ⟨fun h2 => ?_, fun h2 => ?_⟩
      · have h2 : t (b + i) = nI (List.getD [99, 111, 110, 116, 114, 97, 99, 116] (nI i).toNatClampNeg 0) := h2
        rw [nI_clamp (by omega)] at h2
        refine hX _ _ _ _ _ _ _ ?_
        have h9 := ih (i + 1) σ1 v (by omega) (by omega) h1 hv hrun (fun k hk => by
          by_cases e : k = i
          · rw [e]; exact h2
          · exact hall k (by omega))
        rw [← nI_1 i] at h9
        exact h9
      · have h2 : ¬ t (b + i) = nI (List.getD [99, 111, 110, 116, 114, 97, 99, 116] (nI i).toNatClampNeg 0) := h2
        rw [nI_clamp (by omega)] at h2
        exact ⟨Or.inl rfl, q0 (fun z => h2 ((wB_iff.mp z).2 i h)) σ1 h1⟩
  have mid : ∀ σ1 v, PS σ0 σ1 b f dp → v = nI (run kL t n b) → X 38 [some (.ref 0), some (.ref 1082), some (.int v), none] [] sh_10 σ1 0 0 := by
    intro σ1 v h1 hv
    have hle := run_le (P := kL) (t := t) hs
    have hge := run_ge (P := kL) (t := t) (n := n) (p := b)
    refine hX _ _ _ _ _ _ _ ?_
    refine b_eq (a := run kL t n b - b) (b := 8) (by rw [hv, h1.2.1, nI_sub hge]) rfl (by omega) (by omega) (fun h => ?_) (fun h => ?_)
    · refine hX _ _ _ _ _ _ _ ?_
      exact loop2 _ 0 σ1 v rfl (by omega) h1 hv (by omega) (fun k hk => by omega)
    · exact ⟨Or.inl rfl, q0 (fun z => by have z1 : run kL t n b = b + 8 := (wB_iff.mp z).1; omega) σ1 h1⟩
  have loop1 : ∀ j k σ1, n - k = j → b ≤ k → k ≤ n → PS σ0 σ1 b f dp → run kL t n b = run kL t n k → X 9 [some (.ref 0), some (.ref 1082), some (.int (nI k)), none] [] sh_10 σ1 0 0 := by
    intro j
    induction j with
    | zero =>
      intro k σ1 hj hk hk2 h1 hrun
      refine hX _ _ _ _ _ _ _ ?_
      refine b_ge rfl (h1.en hT) (by omega) (by omega) (fun h => ?_) (fun h => by omega)
      exact mid σ1 _ h1 (by rw [hrun, run_stop (by omega)])
    | succ j ih =>
      intro k σ1 hj hk hk2 h1 hrun
      refine hX _ _ _ _ _ _ _ ?_
      refine b_ge rfl (h1.en hT) (by omega) (by omega) (fun h => by omega) (fun h => ?_)
      refine g_letter hT h1 rfl h ?_
      refine g_isIn (fun h2 => ?_) (fun h2 => ?_)
      · refine ⟨fun h3 => absurd h3 (by decide +kernel), fun _ => ?_⟩
        have h9 := ih (k + 1) σ1 (by omega) (by omega) (by omega) h1 (by rw [hrun]; exact run_step h (kL_iff.mpr h2))
        rw [← nI_1 k] at h9
        exact h9
      · refine ⟨fun _ => ?_, fun h3 => absurd rfl h3⟩
        exact mid σ1 _ h1 (by rw [hrun, run_stop (fun z => h2 (kL_iff.mp z.2))])
  refine hX _ _ _ _ _ _ _ ?_
  refine g_skip hT hP (by omega) ?_
  intro σ1 h1
  rw [hb] at h1
  have h9 := loop1 _ b σ1 rfl (Nat.le_refl _) hs h1 rfl
  rw [← h1.2.1] at h9
  exact h9
theorem g_has_83 (hT : TX σ0 t n) (hP : PS σ0 σ p f dp) (hp : p ≤ n) (q1 : wB t n (sk t n p) [116, 111] = true → ∀ σ', PS σ0 σ' (sk t n p + 2) f dp → Q (.inl (some (.int (nI 1)))) sh_10 σ') (q0 : ¬ wB t n (sk t n p) [116, 111] = true → ∀ σ', PS σ0 σ' (sk t n p) f dp → Q (.inl (some (.int (nI 0)))) sh_10 σ') : mD (d + 3) 100 [.ref 0, .ref 1083] sh_10 σ Q := by
  have hn := hT.2.1
  have hs : sk t n p ≤ n := sk_le hp
  refine ⟨rfl, fun X hX => ?_⟩
  generalize hb : sk t n p = b at *
  have loop2 : ∀ j i σ1 v, 2 - i = j → i ≤ 2 → PS σ0 σ1 b f dp → v = nI (run kL t n b) → run kL t n b = b + 2 → (∀ k, k < i → t (b + k) = nI (List.getD [116, 111] k 0)) → X 55 [some (.ref 0), some (.ref 1083), some (.int v), some (.int (nI i))] [] sh_10 σ1 0 0 := by
    intro j
    induction j with
    | zero =>
      intro i σ1 v hj hi h1 hv hrun hall
      refine hX _ _ _ _ _ _ _ ?_
      refine b_ge (b := 2) rfl rfl (by omega) (by omega) (fun h => ?_) (fun h => by omega)
      refine hX _ _ _ _ _ _ _ ?_
      refine ⟨Or.inr rfl, q1 (wB_iff.mpr ⟨hrun, fun k hk => hall k (by have hk : k < 2 := hk; omega)⟩) _ ?_⟩
      exact h1.at1 (by rw [hv, hrun])
    | succ j ih =>
      intro i σ1 v hj hi h1 hv hrun hall
      have hi2 : b + i < n := by
        have := run_le (P := kL) (t := t) hs
        omega
      refine hX _ _ _ _ _ _ _ ?_
      refine b_ge (b := 2) rfl rfl (by omega) (by omega) (fun h => by omega) (fun h => ?_)
      refine g_letter hT h1 (k := b + i) (by rw [h1.2.1, nI_add]) hi2 ?_
      refine ⟨vp_in_nI (n := i) (N := 2) h (by omega), ?_⟩
      refine ⟨fun h2 => ?_, fun h2 => ?_⟩
      · have h2 : t (b + i) = nI (List.getD [116, 111] (nI i).toNatClampNeg 0) := h2
        rw [nI_clamp (by omega)] at h2
        refine hX _ _ _ _ _ _ _ ?_
        have h9 := ih (i + 1) σ1 v (by omega) (by omega) h1 hv hrun (fun k hk => by
          by_cases e : k = i
          · rw [e]; exact h2
          · exact hall k (by omega))
        rw [← nI_1 i] at h9
        exact h9
      · have h2 : ¬ t (b + i) = nI (List.getD [116, 111] (nI i).toNatClampNeg 0) := h2
        rw [nI_clamp (by omega)] at h2
        exact ⟨Or.inl rfl, q0 (fun z => h2 ((wB_iff.mp z).2 i h)) σ1 h1⟩
  have mid : ∀ σ1 v, PS σ0 σ1 b f dp → v = nI (run kL t n b) → X 38 [some (.ref 0), some (.ref 1083), some (.int v), none] [] sh_10 σ1 0 0 := by
    intro σ1 v h1 hv
    have hle := run_le (P := kL) (t := t) hs
    have hge := run_ge (P := kL) (t := t) (n := n) (p := b)
    refine hX _ _ _ _ _ _ _ ?_
    refine b_eq (a := run kL t n b - b) (b := 2) (by rw [hv, h1.2.1, nI_sub hge]) rfl (by omega) (by omega) (fun h => ?_) (fun h => ?_)
    · refine hX _ _ _ _ _ _ _ ?_
      exact loop2 _ 0 σ1 v rfl (by omega) h1 hv (by omega) (fun k hk => by omega)
    · exact ⟨Or.inl rfl, q0 (fun z => by have z1 : run kL t n b = b + 2 := (wB_iff.mp z).1; omega) σ1 h1⟩
  have loop1 : ∀ j k σ1, n - k = j → b ≤ k → k ≤ n → PS σ0 σ1 b f dp → run kL t n b = run kL t n k → X 9 [some (.ref 0), some (.ref 1083), some (.int (nI k)), none] [] sh_10 σ1 0 0 := by
    intro j
    induction j with
    | zero =>
      intro k σ1 hj hk hk2 h1 hrun
      refine hX _ _ _ _ _ _ _ ?_
      refine b_ge rfl (h1.en hT) (by omega) (by omega) (fun h => ?_) (fun h => by omega)
      exact mid σ1 _ h1 (by rw [hrun, run_stop (by omega)])
    | succ j ih =>
      intro k σ1 hj hk hk2 h1 hrun
      refine hX _ _ _ _ _ _ _ ?_
      refine b_ge rfl (h1.en hT) (by omega) (by omega) (fun h => by omega) (fun h => ?_)
      refine g_letter hT h1 rfl h ?_
      refine g_isIn (fun h2 => ?_) (fun h2 => ?_)
      · refine ⟨fun h3 => absurd h3 (by decide +kernel), fun _ => ?_⟩
        have h9 := ih (k + 1) σ1 (by omega) (by omega) (by omega) h1 (by rw [hrun]; exact run_step h (kL_iff.mpr h2))
        rw [← nI_1 k] at h9
        exact h9
      · refine ⟨fun _ => ?_, fun h3 => absurd rfl h3⟩
        exact mid σ1 _ h1 (by rw [hrun, run_stop (fun z => h2 (kL_iff.mp z.2))])
  refine hX _ _ _ _ _ _ _ ?_
  refine g_skip hT hP (by omega) ?_
  intro σ1 h1
  rw [hb] at h1
  have h9 := loop1 _ b σ1 rfl (Nat.le_refl _) hs h1 rfl
  rw [← h1.2.1] at h9
  exact h9
theorem g_has_84 (hT : TX σ0 t n) (hP : PS σ0 σ p f dp) (hp : p ≤ n) (q1 : wB t n (sk t n p) [109, 97, 110, 121] = true → ∀ σ', PS σ0 σ' (sk t n p + 4) f dp → Q (.inl (some (.int (nI 1)))) sh_10 σ') (q0 : ¬ wB t n (sk t n p) [109, 97, 110, 121] = true → ∀ σ', PS σ0 σ' (sk t n p) f dp → Q (.inl (some (.int (nI 0)))) sh_10 σ') : mD (d + 3) 100 [.ref 0, .ref 1084] sh_10 σ Q := by
  have hn := hT.2.1
  have hs : sk t n p ≤ n := sk_le hp
  refine ⟨rfl, fun X hX => ?_⟩
  generalize hb : sk t n p = b at *
  have loop2 : ∀ j i σ1 v, 4 - i = j → i ≤ 4 → PS σ0 σ1 b f dp → v = nI (run kL t n b) → run kL t n b = b + 4 → (∀ k, k < i → t (b + k) = nI (List.getD [109, 97, 110, 121] k 0)) → X 55 [some (.ref 0), some (.ref 1084), some (.int v), some (.int (nI i))] [] sh_10 σ1 0 0 := by
    intro j
    induction j with
    | zero =>
      intro i σ1 v hj hi h1 hv hrun hall
      refine hX _ _ _ _ _ _ _ ?_
      refine b_ge (b := 4) rfl rfl (by omega) (by omega) (fun h => ?_) (fun h => by omega)
      refine hX _ _ _ _ _ _ _ ?_
      refine ⟨Or.inr rfl, q1 (wB_iff.mpr ⟨hrun, fun k hk => hall k (by have hk : k < 4 := hk; omega)⟩) _ ?_⟩
      exact h1.at1 (by rw [hv, hrun])
    | succ j ih =>
      intro i σ1 v hj hi h1 hv hrun hall
      have hi2 : b + i < n := by
        have := run_le (P := kL) (t := t) hs
        omega
      refine hX _ _ _ _ _ _ _ ?_
      refine b_ge (b := 4) rfl rfl (by omega) (by omega) (fun h => by omega) (fun h => ?_)
      refine g_letter hT h1 (k := b + i) (by rw [h1.2.1, nI_add]) hi2 ?_
      refine ⟨vp_in_nI (n := i) (N := 4) h (by omega), ?_⟩
      refine ⟨fun h2 => ?_, fun h2 => ?_⟩
      · have h2 : t (b + i) = nI (List.getD [109, 97, 110, 121] (nI i).toNatClampNeg 0) := h2
        rw [nI_clamp (by omega)] at h2
        refine hX _ _ _ _ _ _ _ ?_
        have h9 := ih (i + 1) σ1 v (by omega) (by omega) h1 hv hrun (fun k hk => by
          by_cases e : k = i
          · rw [e]; exact h2
          · exact hall k (by omega))
        rw [← nI_1 i] at h9
        exact h9
      · have h2 : ¬ t (b + i) = nI (List.getD [109, 97, 110, 121] (nI i).toNatClampNeg 0) := h2
        rw [nI_clamp (by omega)] at h2
        exact ⟨Or.inl rfl, q0 (fun z => h2 ((wB_iff.mp z).2 i h)) σ1 h1⟩
  have mid : ∀ σ1 v, PS σ0 σ1 b f dp → v = nI (run kL t n b) → X 38 [some (.ref 0), some (.ref 1084), some (.int v), none] [] sh_10 σ1 0 0 := by
    intro σ1 v h1 hv
    have hle := run_le (P := kL) (t := t) hs
    have hge := run_ge (P := kL) (t := t) (n := n) (p := b)
    refine hX _ _ _ _ _ _ _ ?_
    refine b_eq (a := run kL t n b - b) (b := 4) (by rw [hv, h1.2.1, nI_sub hge]) rfl (by omega) (by omega) (fun h => ?_) (fun h => ?_)
    · refine hX _ _ _ _ _ _ _ ?_
      exact loop2 _ 0 σ1 v rfl (by omega) h1 hv (by omega) (fun k hk => by omega)
    · exact ⟨Or.inl rfl, q0 (fun z => by have z1 : run kL t n b = b + 4 := (wB_iff.mp z).1; omega) σ1 h1⟩
  have loop1 : ∀ j k σ1, n - k = j → b ≤ k → k ≤ n → PS σ0 σ1 b f dp → run kL t n b = run kL t n k → X 9 [some (.ref 0), some (.ref 1084), some (.int (nI k)), none] [] sh_10 σ1 0 0 := by
    intro j
    induction j with
    | zero =>
      intro k σ1 hj hk hk2 h1 hrun
      refine hX _ _ _ _ _ _ _ ?_
      refine b_ge rfl (h1.en hT) (by omega) (by omega) (fun h => ?_) (fun h => by omega)
      exact mid σ1 _ h1 (by rw [hrun, run_stop (by omega)])
    | succ j ih =>
      intro k σ1 hj hk hk2 h1 hrun
      refine hX _ _ _ _ _ _ _ ?_
      refine b_ge rfl (h1.en hT) (by omega) (by omega) (fun h => by omega) (fun h => ?_)
      refine g_letter hT h1 rfl h ?_
      refine g_isIn (fun h2 => ?_) (fun h2 => ?_)
      · refine ⟨fun h3 => absurd h3 (by decide +kernel), fun _ => ?_⟩
        have h9 := ih (k + 1) σ1 (by omega) (by omega) (by omega) h1 (by rw [hrun]; exact run_step h (kL_iff.mpr h2))
        rw [← nI_1 k] at h9
        exact h9
      · refine ⟨fun _ => ?_, fun h3 => absurd rfl h3⟩
        exact mid σ1 _ h1 (by rw [hrun, run_stop (fun z => h2 (kL_iff.mp z.2))])
  refine hX _ _ _ _ _ _ _ ?_
  refine g_skip hT hP (by omega) ?_
  intro σ1 h1
  rw [hb] at h1
  have h9 := loop1 _ b σ1 rfl (Nat.le_refl _) hs h1 rfl
  rw [← h1.2.1] at h9
  exact h9
theorem g_has_85 (hT : TX σ0 t n) (hP : PS σ0 σ p f dp) (hp : p ≤ n) (q1 : wB t n (sk t n p) [112, 97, 121, 115] = true → ∀ σ', PS σ0 σ' (sk t n p + 4) f dp → Q (.inl (some (.int (nI 1)))) sh_10 σ') (q0 : ¬ wB t n (sk t n p) [112, 97, 121, 115] = true → ∀ σ', PS σ0 σ' (sk t n p) f dp → Q (.inl (some (.int (nI 0)))) sh_10 σ') : mD (d + 3) 100 [.ref 0, .ref 1085] sh_10 σ Q := by
  have hn := hT.2.1
  have hs : sk t n p ≤ n := sk_le hp
  refine ⟨rfl, fun X hX => ?_⟩
  generalize hb : sk t n p = b at *
  have loop2 : ∀ j i σ1 v, 4 - i = j → i ≤ 4 → PS σ0 σ1 b f dp → v = nI (run kL t n b) → run kL t n b = b + 4 → (∀ k, k < i → t (b + k) = nI (List.getD [112, 97, 121, 115] k 0)) → X 55 [some (.ref 0), some (.ref 1085), some (.int v), some (.int (nI i))] [] sh_10 σ1 0 0 := by
    intro j
    induction j with
    | zero =>
      intro i σ1 v hj hi h1 hv hrun hall
      refine hX _ _ _ _ _ _ _ ?_
      refine b_ge (b := 4) rfl rfl (by omega) (by omega) (fun h => ?_) (fun h => by omega)
      refine hX _ _ _ _ _ _ _ ?_
      refine ⟨Or.inr rfl, q1 (wB_iff.mpr ⟨hrun, fun k hk => hall k (by have hk : k < 4 := hk; omega)⟩) _ ?_⟩
      exact h1.at1 (by rw [hv, hrun])
    | succ j ih =>
      intro i σ1 v hj hi h1 hv hrun hall
      have hi2 : b + i < n := by
        have := run_le (P := kL) (t := t) hs
        omega
      refine hX _ _ _ _ _ _ _ ?_
      refine b_ge (b := 4) rfl rfl (by omega) (by omega) (fun h => by omega) (fun h => ?_)
      refine g_letter hT h1 (k := b + i) (by rw [h1.2.1, nI_add]) hi2 ?_
      refine ⟨vp_in_nI (n := i) (N := 4) h (by omega), ?_⟩
      refine ⟨fun h2 => ?_, fun h2 => ?_⟩
      · have h2 : t (b + i) = nI (List.getD [112, 97, 121, 115] (nI i).toNatClampNeg 0) := h2
        rw [nI_clamp (by omega)] at h2
        refine hX _ _ _ _ _ _ _ ?_
        have h9 := ih (i + 1) σ1 v (by omega) (by omega) h1 hv hrun (fun k hk => by
          by_cases e : k = i
          · rw [e]; exact h2
          · exact hall k (by omega))
        rw [← nI_1 i] at h9
        exact h9
      · have h2 : ¬ t (b + i) = nI (List.getD [112, 97, 121, 115] (nI i).toNatClampNeg 0) := h2
        rw [nI_clamp (by omega)] at h2
        exact ⟨Or.inl rfl, q0 (fun z => h2 ((wB_iff.mp z).2 i h)) σ1 h1⟩
  have mid : ∀ σ1 v, PS σ0 σ1 b f dp → v = nI (run kL t n b) → X 38 [some (.ref 0), some (.ref 1085), some (.int v), none] [] sh_10 σ1 0 0 := by
    intro σ1 v h1 hv
    have hle := run_le (P := kL) (t := t) hs
    have hge := run_ge (P := kL) (t := t) (n := n) (p := b)
    refine hX _ _ _ _ _ _ _ ?_
    refine b_eq (a := run kL t n b - b) (b := 4) (by rw [hv, h1.2.1, nI_sub hge]) rfl (by omega) (by omega) (fun h => ?_) (fun h => ?_)
    · refine hX _ _ _ _ _ _ _ ?_
      exact loop2 _ 0 σ1 v rfl (by omega) h1 hv (by omega) (fun k hk => by omega)
    · exact ⟨Or.inl rfl, q0 (fun z => by have z1 : run kL t n b = b + 4 := (wB_iff.mp z).1; omega) σ1 h1⟩
  have loop1 : ∀ j k σ1, n - k = j → b ≤ k → k ≤ n → PS σ0 σ1 b f dp → run kL t n b = run kL t n k → X 9 [some (.ref 0), some (.ref 1085), some (.int (nI k)), none] [] sh_10 σ1 0 0 := by
    intro j
    induction j with
    | zero =>
      intro k σ1 hj hk hk2 h1 hrun
      refine hX _ _ _ _ _ _ _ ?_
      refine b_ge rfl (h1.en hT) (by omega) (by omega) (fun h => ?_) (fun h => by omega)
      exact mid σ1 _ h1 (by rw [hrun, run_stop (by omega)])
    | succ j ih =>
      intro k σ1 hj hk hk2 h1 hrun
      refine hX _ _ _ _ _ _ _ ?_
      refine b_ge rfl (h1.en hT) (by omega) (by omega) (fun h => by omega) (fun h => ?_)
      refine g_letter hT h1 rfl h ?_
      refine g_isIn (fun h2 => ?_) (fun h2 => ?_)
      · refine ⟨fun h3 => absurd h3 (by decide +kernel), fun _ => ?_⟩
        have h9 := ih (k + 1) σ1 (by omega) (by omega) (by omega) h1 (by rw [hrun]; exact run_step h (kL_iff.mpr h2))
        rw [← nI_1 k] at h9
        exact h9
      · refine ⟨fun _ => ?_, fun h3 => absurd rfl h3⟩
        exact mid σ1 _ h1 (by rw [hrun, run_stop (fun z => h2 (kL_iff.mp z.2))])
  refine hX _ _ _ _ _ _ _ ?_
  refine g_skip hT hP (by omega) ?_
  intro σ1 h1
  rw [hb] at h1
  have h9 := loop1 _ b σ1 rfl (Nat.le_refl _) hs h1 rfl
  rw [← h1.2.1] at h9
  exact h9
theorem g_has_86 (hT : TX σ0 t n) (hP : PS σ0 σ p f dp) (hp : p ≤ n) (q1 : wB t n (sk t n p) [104, 101, 97, 112] = true → ∀ σ', PS σ0 σ' (sk t n p + 4) f dp → Q (.inl (some (.int (nI 1)))) sh_10 σ') (q0 : ¬ wB t n (sk t n p) [104, 101, 97, 112] = true → ∀ σ', PS σ0 σ' (sk t n p) f dp → Q (.inl (some (.int (nI 0)))) sh_10 σ') : mD (d + 3) 100 [.ref 0, .ref 1086] sh_10 σ Q := by
  have hn := hT.2.1
  have hs : sk t n p ≤ n := sk_le hp
  refine ⟨rfl, fun X hX => ?_⟩
  generalize hb : sk t n p = b at *
  have loop2 : ∀ j i σ1 v, 4 - i = j → i ≤ 4 → PS σ0 σ1 b f dp → v = nI (run kL t n b) → run kL t n b = b + 4 → (∀ k, k < i → t (b + k) = nI (List.getD [104, 101, 97, 112] k 0)) → X 55 [some (.ref 0), some (.ref 1086), some (.int v), some (.int (nI i))] [] sh_10 σ1 0 0 := by
    intro j
    induction j with
    | zero =>
      intro i σ1 v hj hi h1 hv hrun hall
      refine hX _ _ _ _ _ _ _ ?_
      refine b_ge (b := 4) rfl rfl (by omega) (by omega) (fun h => ?_) (fun h => by omega)
      refine hX _ _ _ _ _ _ _ ?_
      refine ⟨Or.inr rfl, q1 (wB_iff.mpr ⟨hrun, fun k hk => hall k (by have hk : k < 4 := hk; omega)⟩) _ ?_⟩
      exact h1.at1 (by rw [hv, hrun])
    | succ j ih =>
      intro i σ1 v hj hi h1 hv hrun hall
      have hi2 : b + i < n := by
        have := run_le (P := kL) (t := t) hs
        omega
      refine hX _ _ _ _ _ _ _ ?_
      refine b_ge (b := 4) rfl rfl (by omega) (by omega) (fun h => by omega) (fun h => ?_)
      refine g_letter hT h1 (k := b + i) (by rw [h1.2.1, nI_add]) hi2 ?_
      refine ⟨vp_in_nI (n := i) (N := 4) h (by omega), ?_⟩
      refine ⟨fun h2 => ?_, fun h2 => ?_⟩
      · have h2 : t (b + i) = nI (List.getD [104, 101, 97, 112] (nI i).toNatClampNeg 0) := h2
        rw [nI_clamp (by omega)] at h2
        refine hX _ _ _ _ _ _ _ ?_
        have h9 := ih (i + 1) σ1 v (by omega) (by omega) h1 hv hrun (fun k hk => by
          by_cases e : k = i
          · rw [e]; exact h2
          · exact hall k (by omega))
        rw [← nI_1 i] at h9
        exact h9
      · have h2 : ¬ t (b + i) = nI (List.getD [104, 101, 97, 112] (nI i).toNatClampNeg 0) := h2
        rw [nI_clamp (by omega)] at h2
        exact ⟨Or.inl rfl, q0 (fun z => h2 ((wB_iff.mp z).2 i h)) σ1 h1⟩
  have mid : ∀ σ1 v, PS σ0 σ1 b f dp → v = nI (run kL t n b) → X 38 [some (.ref 0), some (.ref 1086), some (.int v), none] [] sh_10 σ1 0 0 := by
    intro σ1 v h1 hv
    have hle := run_le (P := kL) (t := t) hs
    have hge := run_ge (P := kL) (t := t) (n := n) (p := b)
    refine hX _ _ _ _ _ _ _ ?_
    refine b_eq (a := run kL t n b - b) (b := 4) (by rw [hv, h1.2.1, nI_sub hge]) rfl (by omega) (by omega) (fun h => ?_) (fun h => ?_)
    · refine hX _ _ _ _ _ _ _ ?_
      exact loop2 _ 0 σ1 v rfl (by omega) h1 hv (by omega) (fun k hk => by omega)
    · exact ⟨Or.inl rfl, q0 (fun z => by have z1 : run kL t n b = b + 4 := (wB_iff.mp z).1; omega) σ1 h1⟩
  have loop1 : ∀ j k σ1, n - k = j → b ≤ k → k ≤ n → PS σ0 σ1 b f dp → run kL t n b = run kL t n k → X 9 [some (.ref 0), some (.ref 1086), some (.int (nI k)), none] [] sh_10 σ1 0 0 := by
    intro j
    induction j with
    | zero =>
      intro k σ1 hj hk hk2 h1 hrun
      refine hX _ _ _ _ _ _ _ ?_
      refine b_ge rfl (h1.en hT) (by omega) (by omega) (fun h => ?_) (fun h => by omega)
      exact mid σ1 _ h1 (by rw [hrun, run_stop (by omega)])
    | succ j ih =>
      intro k σ1 hj hk hk2 h1 hrun
      refine hX _ _ _ _ _ _ _ ?_
      refine b_ge rfl (h1.en hT) (by omega) (by omega) (fun h => by omega) (fun h => ?_)
      refine g_letter hT h1 rfl h ?_
      refine g_isIn (fun h2 => ?_) (fun h2 => ?_)
      · refine ⟨fun h3 => absurd h3 (by decide +kernel), fun _ => ?_⟩
        have h9 := ih (k + 1) σ1 (by omega) (by omega) (by omega) h1 (by rw [hrun]; exact run_step h (kL_iff.mpr h2))
        rw [← nI_1 k] at h9
        exact h9
      · refine ⟨fun _ => ?_, fun h3 => absurd rfl h3⟩
        exact mid σ1 _ h1 (by rw [hrun, run_stop (fun z => h2 (kL_iff.mp z.2))])
  refine hX _ _ _ _ _ _ _ ?_
  refine g_skip hT hP (by omega) ?_
  intro σ1 h1
  rw [hb] at h1
  have h9 := loop1 _ b σ1 rfl (Nat.le_refl _) hs h1 rfl
  rw [← h1.2.1] at h9
  exact h9
theorem g_has_87 (hT : TX σ0 t n) (hP : PS σ0 σ p f dp) (hp : p ≤ n) (q1 : wB t n (sk t n p) [102, 105, 114, 101] = true → ∀ σ', PS σ0 σ' (sk t n p + 4) f dp → Q (.inl (some (.int (nI 1)))) sh_10 σ') (q0 : ¬ wB t n (sk t n p) [102, 105, 114, 101] = true → ∀ σ', PS σ0 σ' (sk t n p) f dp → Q (.inl (some (.int (nI 0)))) sh_10 σ') : mD (d + 3) 100 [.ref 0, .ref 1087] sh_10 σ Q := by
  have hn := hT.2.1
  have hs : sk t n p ≤ n := sk_le hp
  refine ⟨rfl, fun X hX => ?_⟩
  generalize hb : sk t n p = b at *
  have loop2 : ∀ j i σ1 v, 4 - i = j → i ≤ 4 → PS σ0 σ1 b f dp → v = nI (run kL t n b) → run kL t n b = b + 4 → (∀ k, k < i → t (b + k) = nI (List.getD [102, 105, 114, 101] k 0)) → X 55 [some (.ref 0), some (.ref 1087), some (.int v), some (.int (nI i))] [] sh_10 σ1 0 0 := by
    intro j
    induction j with
    | zero =>
      intro i σ1 v hj hi h1 hv hrun hall
      refine hX _ _ _ _ _ _ _ ?_
      refine b_ge (b := 4) rfl rfl (by omega) (by omega) (fun h => ?_) (fun h => by omega)
      refine hX _ _ _ _ _ _ _ ?_
      refine ⟨Or.inr rfl, q1 (wB_iff.mpr ⟨hrun, fun k hk => hall k (by have hk : k < 4 := hk; omega)⟩) _ ?_⟩
      exact h1.at1 (by rw [hv, hrun])
    | succ j ih =>
      intro i σ1 v hj hi h1 hv hrun hall
      have hi2 : b + i < n := by
        have := run_le (P := kL) (t := t) hs
        omega
      refine hX _ _ _ _ _ _ _ ?_
      refine b_ge (b := 4) rfl rfl (by omega) (by omega) (fun h => by omega) (fun h => ?_)
      refine g_letter hT h1 (k := b + i) (by rw [h1.2.1, nI_add]) hi2 ?_
      refine ⟨vp_in_nI (n := i) (N := 4) h (by omega), ?_⟩
      refine ⟨fun h2 => ?_, fun h2 => ?_⟩
      · have h2 : t (b + i) = nI (List.getD [102, 105, 114, 101] (nI i).toNatClampNeg 0) := h2
        rw [nI_clamp (by omega)] at h2
        refine hX _ _ _ _ _ _ _ ?_
        have h9 := ih (i + 1) σ1 v (by omega) (by omega) h1 hv hrun (fun k hk => by
          by_cases e : k = i
          · rw [e]; exact h2
          · exact hall k (by omega))
        rw [← nI_1 i] at h9
        exact h9
      · have h2 : ¬ t (b + i) = nI (List.getD [102, 105, 114, 101] (nI i).toNatClampNeg 0) := h2
        rw [nI_clamp (by omega)] at h2
        exact ⟨Or.inl rfl, q0 (fun z => h2 ((wB_iff.mp z).2 i h)) σ1 h1⟩
  have mid : ∀ σ1 v, PS σ0 σ1 b f dp → v = nI (run kL t n b) → X 38 [some (.ref 0), some (.ref 1087), some (.int v), none] [] sh_10 σ1 0 0 := by
    intro σ1 v h1 hv
    have hle := run_le (P := kL) (t := t) hs
    have hge := run_ge (P := kL) (t := t) (n := n) (p := b)
    refine hX _ _ _ _ _ _ _ ?_
    refine b_eq (a := run kL t n b - b) (b := 4) (by rw [hv, h1.2.1, nI_sub hge]) rfl (by omega) (by omega) (fun h => ?_) (fun h => ?_)
    · refine hX _ _ _ _ _ _ _ ?_
      exact loop2 _ 0 σ1 v rfl (by omega) h1 hv (by omega) (fun k hk => by omega)
    · exact ⟨Or.inl rfl, q0 (fun z => by have z1 : run kL t n b = b + 4 := (wB_iff.mp z).1; omega) σ1 h1⟩
  have loop1 : ∀ j k σ1, n - k = j → b ≤ k → k ≤ n → PS σ0 σ1 b f dp → run kL t n b = run kL t n k → X 9 [some (.ref 0), some (.ref 1087), some (.int (nI k)), none] [] sh_10 σ1 0 0 := by
    intro j
    induction j with
    | zero =>
      intro k σ1 hj hk hk2 h1 hrun
      refine hX _ _ _ _ _ _ _ ?_
      refine b_ge rfl (h1.en hT) (by omega) (by omega) (fun h => ?_) (fun h => by omega)
      exact mid σ1 _ h1 (by rw [hrun, run_stop (by omega)])
    | succ j ih =>
      intro k σ1 hj hk hk2 h1 hrun
      refine hX _ _ _ _ _ _ _ ?_
      refine b_ge rfl (h1.en hT) (by omega) (by omega) (fun h => by omega) (fun h => ?_)
      refine g_letter hT h1 rfl h ?_
      refine g_isIn (fun h2 => ?_) (fun h2 => ?_)
      · refine ⟨fun h3 => absurd h3 (by decide +kernel), fun _ => ?_⟩
        have h9 := ih (k + 1) σ1 (by omega) (by omega) (by omega) h1 (by rw [hrun]; exact run_step h (kL_iff.mpr h2))
        rw [← nI_1 k] at h9
        exact h9
      · refine ⟨fun _ => ?_, fun h3 => absurd rfl h3⟩
        exact mid σ1 _ h1 (by rw [hrun, run_stop (fun z => h2 (kL_iff.mp z.2))])
  refine hX _ _ _ _ _ _ _ ?_
  refine g_skip hT hP (by omega) ?_
  intro σ1 h1
  rw [hb] at h1
  have h9 := loop1 _ b σ1 rfl (Nat.le_refl _) hs h1 rfl
  rw [← h1.2.1] at h9
  exact h9
theorem g_has_88 (hT : TX σ0 t n) (hP : PS σ0 σ p f dp) (hp : p ≤ n) (q1 : wB t n (sk t n p) [114, 97, 116, 115] = true → ∀ σ', PS σ0 σ' (sk t n p + 4) f dp → Q (.inl (some (.int (nI 1)))) sh_10 σ') (q0 : ¬ wB t n (sk t n p) [114, 97, 116, 115] = true → ∀ σ', PS σ0 σ' (sk t n p) f dp → Q (.inl (some (.int (nI 0)))) sh_10 σ') : mD (d + 3) 100 [.ref 0, .ref 1088] sh_10 σ Q := by
  have hn := hT.2.1
  have hs : sk t n p ≤ n := sk_le hp
  refine ⟨rfl, fun X hX => ?_⟩
  generalize hb : sk t n p = b at *
  have loop2 : ∀ j i σ1 v, 4 - i = j → i ≤ 4 → PS σ0 σ1 b f dp → v = nI (run kL t n b) → run kL t n b = b + 4 → (∀ k, k < i → t (b + k) = nI (List.getD [114, 97, 116, 115] k 0)) → X 55 [some (.ref 0), some (.ref 1088), some (.int v), some (.int (nI i))] [] sh_10 σ1 0 0 := by
    intro j
    induction j with
    | zero =>
      intro i σ1 v hj hi h1 hv hrun hall
      refine hX _ _ _ _ _ _ _ ?_
      refine b_ge (b := 4) rfl rfl (by omega) (by omega) (fun h => ?_) (fun h => by omega)
      refine hX _ _ _ _ _ _ _ ?_
      refine ⟨Or.inr rfl, q1 (wB_iff.mpr ⟨hrun, fun k hk => hall k (by have hk : k < 4 := hk; omega)⟩) _ ?_⟩
      exact h1.at1 (by rw [hv, hrun])
    | succ j ih =>
      intro i σ1 v hj hi h1 hv hrun hall
      have hi2 : b + i < n := by
        have := run_le (P := kL) (t := t) hs
        omega
      refine hX _ _ _ _ _ _ _ ?_
      refine b_ge (b := 4) rfl rfl (by omega) (by omega) (fun h => by omega) (fun h => ?_)
      refine g_letter hT h1 (k := b + i) (by rw [h1.2.1, nI_add]) hi2 ?_
      refine ⟨vp_in_nI (n := i) (N := 4) h (by omega), ?_⟩
      refine ⟨fun h2 => ?_, fun h2 => ?_⟩
      · have h2 : t (b + i) = nI (List.getD [114, 97, 116, 115] (nI i).toNatClampNeg 0) := h2
        rw [nI_clamp (by omega)] at h2
        refine hX _ _ _ _ _ _ _ ?_
        have h9 := ih (i + 1) σ1 v (by omega) (by omega) h1 hv hrun (fun k hk => by
          by_cases e : k = i
          · rw [e]; exact h2
          · exact hall k (by omega))
        rw [← nI_1 i] at h9
        exact h9
      · have h2 : ¬ t (b + i) = nI (List.getD [114, 97, 116, 115] (nI i).toNatClampNeg 0) := h2
        rw [nI_clamp (by omega)] at h2
        exact ⟨Or.inl rfl, q0 (fun z => h2 ((wB_iff.mp z).2 i h)) σ1 h1⟩
  have mid : ∀ σ1 v, PS σ0 σ1 b f dp → v = nI (run kL t n b) → X 38 [some (.ref 0), some (.ref 1088), some (.int v), none] [] sh_10 σ1 0 0 := by
    intro σ1 v h1 hv
    have hle := run_le (P := kL) (t := t) hs
    have hge := run_ge (P := kL) (t := t) (n := n) (p := b)
    refine hX _ _ _ _ _ _ _ ?_
    refine b_eq (a := run kL t n b - b) (b := 4) (by rw [hv, h1.2.1, nI_sub hge]) rfl (by omega) (by omega) (fun h => ?_) (fun h => ?_)
    · refine hX _ _ _ _ _ _ _ ?_
      exact loop2 _ 0 σ1 v rfl (by omega) h1 hv (by omega) (fun k hk => by omega)
    · exact ⟨Or.inl rfl, q0 (fun z => by have z1 : run kL t n b = b + 4 := (wB_iff.mp z).1; omega) σ1 h1⟩
  have loop1 : ∀ j k σ1, n - k = j → b ≤ k → k ≤ n → PS σ0 σ1 b f dp → run kL t n b = run kL t n k → X 9 [some (.ref 0), some (.ref 1088), some (.int (nI k)), none] [] sh_10 σ1 0 0 := by
    intro j
    induction j with
    | zero =>
      intro k σ1 hj hk hk2 h1 hrun
      refine hX _ _ _ _ _ _ _ ?_
      refine b_ge rfl (h1.en hT) (by omega) (by omega) (fun h => ?_) (fun h => by omega)
      exact mid σ1 _ h1 (by rw [hrun, run_stop (by omega)])
    | succ j ih =>
      intro k σ1 hj hk hk2 h1 hrun
      refine hX _ _ _ _ _ _ _ ?_
      refine b_ge rfl (h1.en hT) (by omega) (by omega) (fun h => by omega) (fun h => ?_)
      refine g_letter hT h1 rfl h ?_
      refine g_isIn (fun h2 => ?_) (fun h2 => ?_)
      · refine ⟨fun h3 => absurd h3 (by decide +kernel), fun _ => ?_⟩
        have h9 := ih (k + 1) σ1 (by omega) (by omega) (by omega) h1 (by rw [hrun]; exact run_step h (kL_iff.mpr h2))
        rw [← nI_1 k] at h9
        exact h9
      · refine ⟨fun _ => ?_, fun h3 => absurd rfl h3⟩
        exact mid σ1 _ h1 (by rw [hrun, run_stop (fun z => h2 (kL_iff.mp z.2))])
  refine hX _ _ _ _ _ _ _ ?_
  refine g_skip hT hP (by omega) ?_
  intro σ1 h1
  rw [hb] at h1
  have h9 := loop1 _ b σ1 rfl (Nat.le_refl _) hs h1 rfl
  rw [← h1.2.1] at h9
  exact h9
end HASW
