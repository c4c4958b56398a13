/-! THE CLASS: things are made, numbers and figures are taken -/
section THG
variable {d n i : Nat} {σ : mSg} {t : Nat → Int32} {Q : mPst}
theorem c_takeNumber {lo hi : Int32} (h : TK σ t n i) (q1 : nB t n (bg t n i) lo hi = true → ∀ σ', TK σ' t n (i + 1) → Q (.inl (some (.int (nV t n (bg t n i))))) sh_8 σ') (q0 : ¬ nB t n (bg t n i) lo hi = true → Q (.inl (some (.int (-(nI 1))))) sh_8 σ) : mD (d + 1) 341 [.ref 0, .int lo, .int hi] sh_8 σ Q := by
  have hK := h
  obtain ⟨a1, a2, a3, a4, a5, a6, a7, a8⟩ := h.at0
  obtain ⟨h1, h2, h3, th, h4, h5, h6, h7, h8, h9, h10⟩ := h
  generalize hb : bg t n i = b at *
  refine ⟨rfl, fun X hX => ?_⟩
  have e2 : σ 2 (σ 0 5).toNatClampNeg = nI b := by rw [clN a2 (by omega)]; exact a3
  have e3 : σ 3 (σ 0 5).toNatClampNeg = nI (te t n b) := by rw [clN a2 (by omega)]; exact a4
  have bad : ∀ {L}, ¬ nB t n b lo hi = true → (L = 30 ∨ L = 84 ∨ L = 122) → X L [none, none, none, none, none, none] [] sh_8 σ 0 0 := by
    intro L hn hL
    rcases hL with rfl | rfl | rfl
    · refine hX _ _ _ _ _ _ _ ?_
      exact q0 hn
    · refine hX _ _ _ _ _ _ _ ?_
      exact q0 hn
    · refine hX _ _ _ _ _ _ _ ?_
      exact q0 hn
  have loop : ∀ j k, te t n b - (b + k) = j → b + k ≤ te t n b → b < te t n b → te t n b ≤ b + 3 → (∀ q, q < k → kD (t (b + q)) = true) → X 46 [some (.ref 0), some (.int lo), some (.int hi), none, some (.int (dvI t b k)), some (.int (nI (b + k)))] [] sh_8 σ 0 0 := by
    intro j
    induction j with
    | zero =>
      intro k hj hk hbt hb3 hall
      refine hX _ _ _ _ _ _ _ ?_
      refine ⟨vin a2 (by omega) (by omega), ?_⟩
      refine b_ge rfl e3 (by omega) (by omega) (fun h => ?_) (fun h => by omega)
      have ek : te t n b = b + k := by omega
      have hd0 : kD (t b) = true := hall 0 (by omega)
      have er : run kD t n b = b + k := by
        have := ek
        unfold te at this
        rw [if_pos (by omega), if_neg (fun z => kL_D z hd0), if_pos hd0] at this
        exact this
      have ev : nV t n b = dvI t b k := by unfold nV; rw [er, Nat.add_sub_cancel_left]
      refine hX _ _ _ _ _ _ _ ?_
      refine ⟨fun h11 => ?_, fun h11 => ⟨fun h12 => ?_, fun h12 => ?_⟩⟩
      · exact bad (fun z => by have := (nB_iff.mp z).2.2.1; rw [ev] at this; exact Int32.not_lt.mpr this h11) (Or.inr (Or.inr rfl))
      · refine hX _ _ _ _ _ _ _ ?_
        rw [ev] at q1
        exact q1 (nB_iff.mpr ⟨by omega, by omega, by rw [ev]; exact Int32.not_lt.mp h11, by rw [ev]; exact h12⟩) _ (hK.nxt (by rw [hb]; omega) (by rw [a2]; exact nI_1 i))
      · exact bad (fun z => by have := (nB_iff.mp z).2.2.2; rw [ev] at this; exact h12 this) (Or.inr (Or.inr rfl))
    | succ j ih =>
      intro k hj hk hbt hb3 hall
      have e5 : σ 1 (nI (b + k)).toNatClampNeg = t (b + k) := by rw [nI_clamp (by omega)]; exact h3 _ (by omega)
      have nd : ¬ kD (t (b + k)) = true → ¬ nB t n b lo hi = true := by
        intro z z2
        have := nB_te z2
        exact z (run_all (P := kD) (t := t) (n := n) (p := b) (q := b + k) (by omega) (by omega)).2
      refine hX _ _ _ _ _ _ _ ?_
      refine ⟨vin a2 (by omega) (by omega), ?_⟩
      refine b_ge rfl e3 (by omega) (by omega) (fun h => by omega) (fun h => ?_)
      refine ⟨vp_in_nI (by omega) (by omega), ?_⟩
      refine ⟨fun h11 => ?_, fun h11 => ?_⟩
      · have h11 : σ 1 (nI (b + k)).toNatClampNeg < nI 48 := h11
        rw [e5] at h11
        exact bad (nd (fun z => Int32.not_le.mpr h11 (kD_iff.mp z).1)) (Or.inr (Or.inl rfl))
      · have h11 : ¬ σ 1 (nI (b + k)).toNatClampNeg < nI 48 := h11
        rw [e5] at h11
        refine ⟨vp_in_nI (by omega) (by omega), ?_⟩
        refine ⟨fun h12 => ?_, fun h12 => ?_⟩
        · have h12 : σ 1 (nI (b + k)).toNatClampNeg ≤ nI 57 := h12
          rw [e5] at h12
          refine hX _ _ _ _ _ _ _ ?_
          refine ⟨vp_in_nI (by omega) (by omega), ?_⟩
          have h13 := ih (k + 1) (by omega) (by omega) hbt hb3 (fun q hq => by
            by_cases e : q = k
            · rw [e]; exact kD_iff.mpr ⟨Int32.not_lt.mp h11, h12⟩
            · exact hall q (by omega))
          rw [dvI, ← e5, show b + (k + 1) = b + k + 1 from rfl, ← nI_1 (b + k)] at h13
          exact h13
        · have h12 : ¬ σ 1 (nI (b + k)).toNatClampNeg ≤ nI 57 := h12
          rw [e5] at h12
          exact bad (nd (fun z => h12 (kD_iff.mp z).2)) (Or.inr (Or.inl rfl))
  refine hX _ _ _ _ _ _ _ ?_
  refine ⟨vin a2 (by omega) (by omega), ?_⟩
  refine ⟨vin a2 (by omega) (by omega), ?_⟩
  have ed : σ 3 (σ 0 5).toNatClampNeg - σ 2 (σ 0 5).toNatClampNeg = nI (te t n b - b) := by rw [e2, e3, nI_sub a8]
  have nt : nB t n b lo hi = true → b < te t n b ∧ te t n b ≤ b + 3 := by
    intro z
    have z1 := nB_te z
    have z2 := nB_iff.mp z
    omega
  refine b_lt ed (b := 1) rfl (by omega) (by omega) (fun h => ?_) (fun h => ?_)
  · exact bad (fun z => by have := nt z; omega) (Or.inl rfl)
  · refine b_le ed (b := 3) rfl (by omega) (by omega) (fun h' => ?_) (fun h' => ?_)
    · refine hX _ _ _ _ _ _ _ ?_
      refine ⟨vin a2 (by omega) (by omega), ?_⟩
      have h9 := loop _ 0 rfl (by omega) (by omega) (by omega) (fun q hq => by omega)
      rw [Nat.add_zero, ← e2] at h9
      exact h9
    · exact bad (fun z => by have := nt z; omega) (Or.inl rfl)
theorem c_takeFigures (h : TK σ t n i) (q1 : run kD t n (bg t n i) = bg t n i + 6 → ∀ σ', TK σ' t n (i + 1) → Q (.inl (some (.int (nI (bg t n i))))) sh_8 σ') (q0 : ¬ run kD t n (bg t n i) = bg t n i + 6 → Q (.inl (some (.int (-(nI 1))))) sh_8 σ) : mD (d + 2) 342 [.ref 0, .int (nI 6)] sh_8 σ Q := by
  have hK := h
  obtain ⟨a1, a2, a3, a4, a5, a6, a7, a8⟩ := h.at0
  obtain ⟨h1, h2, h3, th, h4, h5, h6, h7, h8, h9, h10⟩ := h
  generalize hb : bg t n i = b at *
  refine ⟨rfl, fun X hX => ?_⟩
  have e2 : σ 2 (σ 0 5).toNatClampNeg = nI b := by rw [clN a2 (by omega)]; exact a3
  have e3 : σ 3 (σ 0 5).toNatClampNeg = nI (te t n b) := by rw [clN a2 (by omega)]; exact a4
  have bad : ¬ run kD t n b = b + 6 → X 43 [none, none, none] [] sh_8 σ 0 0 := by
    intro hn
    refine hX _ _ _ _ _ _ _ ?_
    exact q0 hn
  have tr : run kD t n b = b + 6 → b < n ∧ kD (t b) = true ∧ te t n b = b + 6 := by
    intro z
    obtain ⟨z1, z2⟩ := run_all (P := kD) (t := t) (n := n) (p := b) (q := b) (Nat.le_refl _) (by omega)
    refine ⟨z1, z2, ?_⟩
    unfold te
    rw [if_pos z1, if_neg (fun z => kL_D z z2), if_pos z2]; exact z
  refine hX _ _ _ _ _ _ _ ?_
  refine ⟨vin a2 (by omega) (by omega), ?_⟩
  refine b_lt (a := 6) rfl (b := 1) rfl (by omega) (by omega) (fun h => by omega) (fun _ => ?_)
  refine ⟨vin a2 (by omega) (by omega), ?_⟩
  have ed : σ 3 (σ 0 5).toNatClampNeg - σ 2 (σ 0 5).toNatClampNeg = nI (te t n b - b) := by rw [e2, e3, nI_sub a8]
  refine b_ne ed (b := 6) rfl (by omega) (by omega) (fun h => ?_) (fun h => ?_)
  · exact bad (fun z => by have := tr z; omega)
  · refine ⟨vin e2 (by omega) (by omega), ?_⟩
    have hlt : b < n := by omega
    have e5 : σ 1 (σ 2 (σ 0 5).toNatClampNeg).toNatClampNeg = t b := by rw [clN e2 (by omega)]; exact h3 _ hlt
    refine c_kindOf ?_
    have e6 : nI (kd (σ 1 (σ 2 (σ 0 5).toNatClampNeg).toNatClampNeg)) = nI (kd (t b)) := by rw [e5]
    have hk4 := kd_lt (c := t b)
    refine b_eq e6 (b := 2) rfl (by omega) (by omega) (fun h' => ?_) (fun h' => ?_)
    · have hd0 := kd_D h'
      have er : run kD t n b = b + 6 := by
        have : te t n b = b + 6 := by omega
        unfold te at this
        rw [if_pos hlt, if_neg (fun z => kL_D z hd0), if_pos hd0] at this
        exact this
      refine hX _ _ _ _ _ _ _ ?_
      refine qi e2.symm (q1 er _ ?_)
      exact hK.nxt (by rw [hb]; exact hlt) (by rw [a2]; exact nI_1 i)
    · refine bad (fun z => ?_)
      have z2 := (tr z).2.1
      apply h'
      unfold kd
      rw [if_neg (kD_B z2), if_neg (fun z => kL_D z z2), if_pos z2]
theorem c_tw_0 (h : TK σ t n i) (q1 : wB t n (bg t n i) [109, 111, 114, 101] = true → ∀ σ', TK σ' t n (i + 1) → Q (.inl (some (.int (nI 1)))) sh_8 σ') (q0 : ¬ wB t n (bg t n i) [109, 111, 114, 101] = true → Q (.inl (some (.int (nI 0)))) sh_8 σ) : mD (d + 1) 340 [.ref 0, .ref 1000] sh_8 σ Q := by
  have hK := h
  obtain ⟨a1, a2, a3, a4, a5, a6, a7, a8⟩ := h.at0
  obtain ⟨h1, h2, h3, th, h4, h5, h6, h7, h8, h9, h10⟩ := h
  generalize hb : bg t n i = b at *
  refine ⟨rfl, fun X hX => ?_⟩
  have e2 : σ 2 (σ 0 5).toNatClampNeg = nI b := by rw [clN a2 (by omega)]; exact a3
  have e3 : σ 3 (σ 0 5).toNatClampNeg = nI (te t n b) := by rw [clN a2 (by omega)]; exact a4
  have loop : ∀ j k, 4 - k = j → k ≤ 4 → te t n b = b + 4 → (∀ q, q < k → t (b + q) = nI (List.getD [109, 111, 114, 101] q 0)) → X 32 [some (.ref 0), some (.ref 1000), some (.int (σ 2 (σ 0 5).toNatClampNeg)), some (.int (nI k))] [] sh_8 σ 0 0 := by
    intro j
    induction j with
    | zero =>
      intro k hj hk ht hall
      refine hX _ _ _ _ _ _ _ ?_
      refine b_ge (b := 4) rfl rfl (by omega) (by omega) (fun h => ?_) (fun h => by omega)
      have hlt : b < n := by omega
      have hL : kL (t b) = true := by
        have := hall 0 (by omega)
        rw [Nat.add_zero] at this
        rw [this]
        decide +kernel
      refine hX _ _ _ _ _ _ _ ?_
      refine ⟨Or.inr rfl, q1 (wB_iff.mpr ⟨?_, fun q hq => hall q (by have hq : q < 4 := hq; omega)⟩) _ ?_⟩
      · unfold te at ht
        rw [if_pos hlt, if_pos hL] at ht
        exact ht
      · exact hK.nxt (by rw [hb]; exact hlt) (by rw [a2]; exact nI_1 i)
    | succ j ih =>
      intro k hj hk ht hall
      have e4 : σ 2 (σ 0 5).toNatClampNeg + nI k = nI (b + k) := by rw [e2, nI_add]
      refine hX _ _ _ _ _ _ _ ?_
      refine b_ge (b := 4) rfl rfl (by omega) (by omega) (fun h => by omega) (fun h => ?_)
      refine ⟨vin e4 (by omega) (by omega), ?_⟩
      refine ⟨vp_in_nI (n := k) (N := 4) h (by omega), ?_⟩
      have e5 : σ 1 (σ 2 (σ 0 5).toNatClampNeg + nI k).toNatClampNeg = t (b + k) := by rw [clN e4 (by omega)]; exact h3 _ (by omega)
      refine ⟨fun h11 => ?_, fun h11 => ?_⟩
      · have h11 : σ 1 (σ 2 (σ 0 5).toNatClampNeg + nI k).toNatClampNeg = nI (List.getD [109, 111, 114, 101] (nI k).toNatClampNeg 0) := h11
        rw [e5, nI_clamp (by omega)] at h11
        refine hX _ _ _ _ _ _ _ ?_
        have h12 := ih (k + 1) (by omega) (by omega) ht (fun q hq => by
          by_cases e : q = k
          · rw [e]; exact h11
          · exact hall q (by omega))
        rw [← nI_1 k] at h12
        exact h12
      · have h11 : ¬ σ 1 (σ 2 (σ 0 5).toNatClampNeg + nI k).toNatClampNeg = nI (List.getD [109, 111, 114, 101] (nI k).toNatClampNeg 0) := h11
        rw [e5, nI_clamp (by omega)] at h11
        exact ⟨Or.inl rfl, q0 (fun z => h11 ((wB_iff.mp z).2 k h))⟩
  refine hX _ _ _ _ _ _ _ ?_
  refine ⟨vin a2 (by omega) (by omega), ?_⟩
  refine ⟨vin a2 (by omega) (by omega), ?_⟩
  refine b_eq (a := te t n b - b) (b := 4) (by rw [e2, e3, nI_sub a8]) rfl (by omega) (by omega) (fun h => ?_) (fun h => ?_)
  · refine hX _ _ _ _ _ _ _ ?_
    exact loop _ 0 rfl (by omega) (by omega) (fun q hq => by omega)
  · exact ⟨Or.inl rfl, q0 (fun z => by have z1 : te t n b = b + 4 := wB_te z (by decide); omega)⟩
theorem c_tw_1 (h : TK σ t n i) (q1 : wB t n (bg t n i) [108, 101, 115, 115] = true → ∀ σ', TK σ' t n (i + 1) → Q (.inl (some (.int (nI 1)))) sh_8 σ') (q0 : ¬ wB t n (bg t n i) [108, 101, 115, 115] = true → Q (.inl (some (.int (nI 0)))) sh_8 σ) : mD (d + 1) 340 [.ref 0, .ref 1001] sh_8 σ Q := by
  have hK := h
  obtain ⟨a1, a2, a3, a4, a5, a6, a7, a8⟩ := h.at0
  obtain ⟨h1, h2, h3, th, h4, h5, h6, h7, h8, h9, h10⟩ := h
  generalize hb : bg t n i = b at *
  refine ⟨rfl, fun X hX => ?_⟩
  have e2 : σ 2 (σ 0 5).toNatClampNeg = nI b := by rw [clN a2 (by omega)]; exact a3
  have e3 : σ 3 (σ 0 5).toNatClampNeg = nI (te t n b) := by rw [clN a2 (by omega)]; exact a4
  have loop : ∀ j k, 4 - k = j → k ≤ 4 → te t n b = b + 4 → (∀ q, q < k → t (b + q) = nI (List.getD [108, 101, 115, 115] q 0)) → X 32 [some (.ref 0), some (.ref 1001), some (.int (σ 2 (σ 0 5).toNatClampNeg)), some (.int (nI k))] [] sh_8 σ 0 0 := by
    intro j
    induction j with
    | zero =>
      intro k hj hk ht hall
      refine hX _ _ _ _ _ _ _ ?_
      refine b_ge (b := 4) rfl rfl (by omega) (by omega) (fun h => ?_) (fun h => by omega)
      have hlt : b < n := by omega
      have hL : kL (t b) = true := by
        have := hall 0 (by omega)
        rw [Nat.add_zero] at this
        rw [this]
        decide +kernel
      refine hX _ _ _ _ _ _ _ ?_
      refine ⟨Or.inr rfl, q1 (wB_iff.mpr ⟨?_, fun q hq => hall q (by have hq : q < 4 := hq; omega)⟩) _ ?_⟩
      · unfold te at ht
        rw [if_pos hlt, if_pos hL] at ht
        exact ht
      · exact hK.nxt (by rw [hb]; exact hlt) (by rw [a2]; exact nI_1 i)
    | succ j ih =>
      intro k hj hk ht hall
      have e4 : σ 2 (σ 0 5).toNatClampNeg + nI k = nI (b + k) := by rw [e2, nI_add]
      refine hX _ _ _ _ _ _ _ ?_
      refine b_ge (b := 4) rfl rfl (by omega) (by omega) (fun h => by omega) (fun h => ?_)
      refine ⟨vin e4 (by omega) (by omega), ?_⟩
      refine ⟨vp_in_nI (n := k) (N := 4) h (by omega), ?_⟩
      have e5 : σ 1 (σ 2 (σ 0 5).toNatClampNeg + nI k).toNatClampNeg = t (b + k) := by rw [clN e4 (by omega)]; exact h3 _ (by omega)
      refine ⟨fun h11 => ?_, fun h11 => ?_⟩
      · have h11 : σ 1 (σ 2 (σ 0 5).toNatClampNeg + nI k).toNatClampNeg = nI (List.getD [108, 101, 115, 115] (nI k).toNatClampNeg 0) := h11
        rw [e5, nI_clamp (by omega)] at h11
        refine hX _ _ _ _ _ _ _ ?_
        have h12 := ih (k + 1) (by omega) (by omega) ht (fun q hq => by
          by_cases e : q = k
          · rw [e]; exact h11
          · exact hall q (by omega))
        rw [← nI_1 k] at h12
        exact h12
      · have h11 : ¬ σ 1 (σ 2 (σ 0 5).toNatClampNeg + nI k).toNatClampNeg = nI (List.getD [108, 101, 115, 115] (nI k).toNatClampNeg 0) := h11
        rw [e5, nI_clamp (by omega)] at h11
        exact ⟨Or.inl rfl, q0 (fun z => h11 ((wB_iff.mp z).2 k h))⟩
  refine hX _ _ _ _ _ _ _ ?_
  refine ⟨vin a2 (by omega) (by omega), ?_⟩
  refine ⟨vin a2 (by omega) (by omega), ?_⟩
  refine b_eq (a := te t n b - b) (b := 4) (by rw [e2, e3, nI_sub a8]) rfl (by omega) (by omega) (fun h => ?_) (fun h => ?_)
  · refine hX _ _ _ _ _ _ _ ?_
    exact loop _ 0 rfl (by omega) (by omega) (fun q hq => by omega)
  · exact ⟨Or.inl rfl, q0 (fun z => by have z1 : te t n b = b + 4 := wB_te z (by decide); omega)⟩
theorem c_tw_2 (h : TK σ t n i) (q1 : wB t n (bg t n i) [116, 111, 108, 108] = true → ∀ σ', TK σ' t n (i + 1) → Q (.inl (some (.int (nI 1)))) sh_8 σ') (q0 : ¬ wB t n (bg t n i) [116, 111, 108, 108] = true → Q (.inl (some (.int (nI 0)))) sh_8 σ) : mD (d + 1) 340 [.ref 0, .ref 1002] sh_8 σ Q := by
  have hK := h
  obtain ⟨a1, a2, a3, a4, a5, a6, a7, a8⟩ := h.at0
  obtain ⟨h1, h2, h3, th, h4, h5, h6, h7, h8, h9, h10⟩ := h
  generalize hb : bg t n i = b at *
  refine ⟨rfl, fun X hX => ?_⟩
  have e2 : σ 2 (σ 0 5).toNatClampNeg = nI b := by rw [clN a2 (by omega)]; exact a3
  have e3 : σ 3 (σ 0 5).toNatClampNeg = nI (te t n b) := by rw [clN a2 (by omega)]; exact a4
  have loop : ∀ j k, 4 - k = j → k ≤ 4 → te t n b = b + 4 → (∀ q, q < k → t (b + q) = nI (List.getD [116, 111, 108, 108] q 0)) → X 32 [some (.ref 0), some (.ref 1002), some (.int (σ 2 (σ 0 5).toNatClampNeg)), some (.int (nI k))] [] sh_8 σ 0 0 := by
    intro j
    induction j with
    | zero =>
      intro k hj hk ht hall
      refine hX _ _ _ _ _ _ _ ?_
      refine b_ge (b := 4) rfl rfl (by omega) (by omega) (fun h => ?_) (fun h => by omega)
      have hlt : b < n := by omega
      have hL : kL (t b) = true := by
        have := hall 0 (by omega)
        rw [Nat.add_zero] at this
        rw [this]
        decide +kernel
      refine hX _ _ _ _ _ _ _ ?_
      refine ⟨Or.inr rfl, q1 (wB_iff.mpr ⟨?_, fun q hq => hall q (by have hq : q < 4 := hq; omega)⟩) _ ?_⟩
      · unfold te at ht
        rw [if_pos hlt, if_pos hL] at ht
        exact ht
      · exact hK.nxt (by rw [hb]; exact hlt) (by rw [a2]; exact nI_1 i)
    | succ j ih =>
      intro k hj hk ht hall
      have e4 : σ 2 (σ 0 5).toNatClampNeg + nI k = nI (b + k) := by rw [e2, nI_add]
      refine hX _ _ _ _ _ _ _ ?_
      refine b_ge (b := 4) rfl rfl (by omega) (by omega) (fun h => by omega) (fun h => ?_)
      refine ⟨vin e4 (by omega) (by omega), ?_⟩
      refine ⟨vp_in_nI (n := k) (N := 4) h (by omega), ?_⟩
      have e5 : σ 1 (σ 2 (σ 0 5).toNatClampNeg + nI k).toNatClampNeg = t (b + k) := by rw [clN e4 (by omega)]; exact h3 _ (by omega)
      refine ⟨fun h11 => ?_, fun h11 => ?_⟩
      · have h11 : σ 1 (σ 2 (σ 0 5).toNatClampNeg + nI k).toNatClampNeg = nI (List.getD [116, 111, 108, 108] (nI k).toNatClampNeg 0) := h11
        rw [e5, nI_clamp (by omega)] at h11
        refine hX _ _ _ _ _ _ _ ?_
        have h12 := ih (k + 1) (by omega) (by omega) ht (fun q hq => by
          by_cases e : q = k
          · rw [e]; exact h11
          · exact hall q (by omega))
        rw [← nI_1 k] at h12
        exact h12
      · have h11 : ¬ σ 1 (σ 2 (σ 0 5).toNatClampNeg + nI k).toNatClampNeg = nI (List.getD [116, 111, 108, 108] (nI k).toNatClampNeg 0) := h11
        rw [e5, nI_clamp (by omega)] at h11
        exact ⟨Or.inl rfl, q0 (fun z => h11 ((wB_iff.mp z).2 k h))⟩
  refine hX _ _ _ _ _ _ _ ?_
  refine ⟨vin a2 (by omega) (by omega), ?_⟩
  refine ⟨vin a2 (by omega) (by omega), ?_⟩
  refine b_eq (a := te t n b - b) (b := 4) (by rw [e2, e3, nI_sub a8]) rfl (by omega) (by omega) (fun h => ?_) (fun h => ?_)
  · refine hX _ _ _ _ _ _ _ ?_
    exact loop _ 0 rfl (by omega) (by omega) (fun q hq => by omega)
  · exact ⟨Or.inl rfl, q0 (fun z => by have z1 : te t n b = b + 4 := wB_te z (by decide); omega)⟩
theorem c_tw_3 (h : TK σ t n i) (q1 : wB t n (bg t n i) [105, 102] = true → ∀ σ', TK σ' t n (i + 1) → Q (.inl (some (.int (nI 1)))) sh_8 σ') (q0 : ¬ wB t n (bg t n i) [105, 102] = true → Q (.inl (some (.int (nI 0)))) sh_8 σ) : mD (d + 1) 340 [.ref 0, .ref 1003] sh_8 σ Q := by
  have hK := h
  obtain ⟨a1, a2, a3, a4, a5, a6, a7, a8⟩ := h.at0
  obtain ⟨h1, h2, h3, th, h4, h5, h6, h7, h8, h9, h10⟩ := h
  generalize hb : bg t n i = b at *
  refine ⟨rfl, fun X hX => ?_⟩
  have e2 : σ 2 (σ 0 5).toNatClampNeg = nI b := by rw [clN a2 (by omega)]; exact a3
  have e3 : σ 3 (σ 0 5).toNatClampNeg = nI (te t n b) := by rw [clN a2 (by omega)]; exact a4
  have loop : ∀ j k, 2 - k = j → k ≤ 2 → te t n b = b + 2 → (∀ q, q < k → t (b + q) = nI (List.getD [105, 102] q 0)) → X 32 [some (.ref 0), some (.ref 1003), some (.int (σ 2 (σ 0 5).toNatClampNeg)), some (.int (nI k))] [] sh_8 σ 0 0 := by
    intro j
    induction j with
    | zero =>
      intro k hj hk ht hall
      refine hX _ _ _ _ _ _ _ ?_
      refine b_ge (b := 2) rfl rfl (by omega) (by omega) (fun h => ?_) (fun h => by omega)
      have hlt : b < n := by omega
      have hL : kL (t b) = true := by
        have := hall 0 (by omega)
        rw [Nat.add_zero] at this
        rw [this]
        decide +kernel
      refine hX _ _ _ _ _ _ _ ?_
      refine ⟨Or.inr rfl, q1 (wB_iff.mpr ⟨?_, fun q hq => hall q (by have hq : q < 2 := hq; omega)⟩) _ ?_⟩
      · unfold te at ht
        rw [if_pos hlt, if_pos hL] at ht
        exact ht
      · exact hK.nxt (by rw [hb]; exact hlt) (by rw [a2]; exact nI_1 i)
    | succ j ih =>
      intro k hj hk ht hall
      have e4 : σ 2 (σ 0 5).toNatClampNeg + nI k = nI (b + k) := by rw [e2, nI_add]
      refine hX _ _ _ _ _ _ _ ?_
      refine b_ge (b := 2) rfl rfl (by omega) (by omega) (fun h => by omega) (fun h => ?_)
      refine ⟨vin e4 (by omega) (by omega), ?_⟩
      refine ⟨vp_in_nI (n := k) (N := 2) h (by omega), ?_⟩
      have e5 : σ 1 (σ 2 (σ 0 5).toNatClampNeg + nI k).toNatClampNeg = t (b + k) := by rw [clN e4 (by omega)]; exact h3 _ (by omega)
      refine ⟨fun h11 => ?_, fun h11 => ?_⟩
      · have h11 : σ 1 (σ 2 (σ 0 5).toNatClampNeg + nI k).toNatClampNeg = nI (List.getD [105, 102] (nI k).toNatClampNeg 0) := h11
        rw [e5, nI_clamp (by omega)] at h11
        refine hX _ _ _ _ _ _ _ ?_
        have h12 := ih (k + 1) (by omega) (by omega) ht (fun q hq => by
          by_cases e : q = k
          · rw [e]; exact h11
          · exact hall q (by omega))
        rw [← nI_1 k] at h12
        exact h12
      · have h11 : ¬ σ 1 (σ 2 (σ 0 5).toNatClampNeg + nI k).toNatClampNeg = nI (List.getD [105, 102] (nI k).toNatClampNeg 0) := h11
        rw [e5, nI_clamp (by omega)] at h11
        exact ⟨Or.inl rfl, q0 (fun z => h11 ((wB_iff.mp z).2 k h))⟩
  refine hX _ _ _ _ _ _ _ ?_
  refine ⟨vin a2 (by omega) (by omega), ?_⟩
  refine ⟨vin a2 (by omega) (by omega), ?_⟩
  refine b_eq (a := te t n b - b) (b := 2) (by rw [e2, e3, nI_sub a8]) rfl (by omega) (by omega) (fun h => ?_) (fun h => ?_)
  · refine hX _ _ _ _ _ _ _ ?_
    exact loop _ 0 rfl (by omega) (by omega) (fun q hq => by omega)
  · exact ⟨Or.inl rfl, q0 (fun z => by have z1 : te t n b = b + 2 := wB_te z (by decide); omega)⟩
theorem c_tw_4 (h : TK σ t n i) (q1 : wB t n (bg t n i) [110, 111, 116] = true → ∀ σ', TK σ' t n (i + 1) → Q (.inl (some (.int (nI 1)))) sh_8 σ') (q0 : ¬ wB t n (bg t n i) [110, 111, 116] = true → Q (.inl (some (.int (nI 0)))) sh_8 σ) : mD (d + 1) 340 [.ref 0, .ref 1004] sh_8 σ Q := by
  have hK := h
  obtain ⟨a1, a2, a3, a4, a5, a6, a7, a8⟩ := h.at0
  obtain ⟨h1, h2, h3, th, h4, h5, h6, h7, h8, h9, h10⟩ := h
  generalize hb : bg t n i = b at *
  refine ⟨rfl, fun X hX => ?_⟩
  have e2 : σ 2 (σ 0 5).toNatClampNeg = nI b := by rw [clN a2 (by omega)]; exact a3
  have e3 : σ 3 (σ 0 5).toNatClampNeg = nI (te t n b) := by rw [clN a2 (by omega)]; exact a4
  have loop : ∀ j k, 3 - k = j → k ≤ 3 → te t n b = b + 3 → (∀ q, q < k → t (b + q) = nI (List.getD [110, 111, 116] q 0)) → X 32 [some (.ref 0), some (.ref 1004), some (.int (σ 2 (σ 0 5).toNatClampNeg)), some (.int (nI k))] [] sh_8 σ 0 0 := by
    intro j
    induction j with
    | zero =>
      intro k hj hk ht hall
      refine hX _ _ _ _ _ _ _ ?_
      refine b_ge (b := 3) rfl rfl (by omega) (by omega) (fun h => ?_) (fun h => by omega)
      have hlt : b < n := by omega
      have hL : kL (t b) = true := by
        have := hall 0 (by omega)
        rw [Nat.add_zero] at this
        rw [this]
        decide +kernel
      refine hX _ _ _ _ _ _ _ ?_
      refine ⟨Or.inr rfl, q1 (wB_iff.mpr ⟨?_, fun q hq => hall q (by have hq : q < 3 := hq; omega)⟩) _ ?_⟩
      · unfold te at ht
        rw [if_pos hlt, if_pos hL] at ht
        exact ht
      · exact hK.nxt (by rw [hb]; exact hlt) (by rw [a2]; exact nI_1 i)
    | succ j ih =>
      intro k hj hk ht hall
      have e4 : σ 2 (σ 0 5).toNatClampNeg + nI k = nI (b + k) := by rw [e2, nI_add]
      refine hX _ _ _ _ _ _ _ ?_
      refine b_ge (b := 3) rfl rfl (by omega) (by omega) (fun h => by omega) (fun h => ?_)
      refine ⟨vin e4 (by omega) (by omega), ?_⟩
      refine ⟨vp_in_nI (n := k) (N := 3) h (by omega), ?_⟩
      have e5 : σ 1 (σ 2 (σ 0 5).toNatClampNeg + nI k).toNatClampNeg = t (b + k) := by rw [clN e4 (by omega)]; exact h3 _ (by omega)
      refine ⟨fun h11 => ?_, fun h11 => ?_⟩
      · have h11 : σ 1 (σ 2 (σ 0 5).toNatClampNeg + nI k).toNatClampNeg = nI (List.getD [110, 111, 116] (nI k).toNatClampNeg 0) := h11
        rw [e5, nI_clamp (by omega)] at h11
        refine hX _ _ _ _ _ _ _ ?_
        have h12 := ih (k + 1) (by omega) (by omega) ht (fun q hq => by
          by_cases e : q = k
          · rw [e]; exact h11
          · exact hall q (by omega))
        rw [← nI_1 k] at h12
        exact h12
      · have h11 : ¬ σ 1 (σ 2 (σ 0 5).toNatClampNeg + nI k).toNatClampNeg = nI (List.getD [110, 111, 116] (nI k).toNatClampNeg 0) := h11
        rw [e5, nI_clamp (by omega)] at h11
        exact ⟨Or.inl rfl, q0 (fun z => h11 ((wB_iff.mp z).2 k h))⟩
  refine hX _ _ _ _ _ _ _ ?_
  refine ⟨vin a2 (by omega) (by omega), ?_⟩
  refine ⟨vin a2 (by omega) (by omega), ?_⟩
  refine b_eq (a := te t n b - b) (b := 3) (by rw [e2, e3, nI_sub a8]) rfl (by omega) (by omega) (fun h => ?_) (fun h => ?_)
  · refine hX _ _ _ _ _ _ _ ?_
    exact loop _ 0 rfl (by omega) (by omega) (fun q hq => by omega)
  · exact ⟨Or.inl rfl, q0 (fun z => by have z1 : te t n b = b + 3 := wB_te z (by decide); omega)⟩
theorem c_tw_5 (h : TK σ t n i) (q1 : wB t n (bg t n i) [115, 109, 111, 107, 101] = true → ∀ σ', TK σ' t n (i + 1) → Q (.inl (some (.int (nI 1)))) sh_8 σ') (q0 : ¬ wB t n (bg t n i) [115, 109, 111, 107, 101] = true → Q (.inl (some (.int (nI 0)))) sh_8 σ) : mD (d + 1) 340 [.ref 0, .ref 1005] sh_8 σ Q := by
  have hK := h
  obtain ⟨a1, a2, a3, a4, a5, a6, a7, a8⟩ := h.at0
  obtain ⟨h1, h2, h3, th, h4, h5, h6, h7, h8, h9, h10⟩ := h
  generalize hb : bg t n i = b at *
  refine ⟨rfl, fun X hX => ?_⟩
  have e2 : σ 2 (σ 0 5).toNatClampNeg = nI b := by rw [clN a2 (by omega)]; exact a3
  have e3 : σ 3 (σ 0 5).toNatClampNeg = nI (te t n b) := by rw [clN a2 (by omega)]; exact a4
  have loop : ∀ j k, 5 - k = j → k ≤ 5 → te t n b = b + 5 → (∀ q, q < k → t (b + q) = nI (List.getD [115, 109, 111, 107, 101] q 0)) → X 32 [some (.ref 0), some (.ref 1005), some (.int (σ 2 (σ 0 5).toNatClampNeg)), some (.int (nI k))] [] sh_8 σ 0 0 := by
    intro j
    induction j with
    | zero =>
      intro k hj hk ht hall
      refine hX _ _ _ _ _ _ _ ?_
      refine b_ge (b := 5) rfl rfl (by omega) (by omega) (fun h => ?_) (fun h => by omega)
      have hlt : b < n := by omega
      have hL : kL (t b) = true := by
        have := hall 0 (by omega)
        rw [Nat.add_zero] at this
        rw [this]
        decide +kernel
      refine hX _ _ _ _ _ _ _ ?_
      refine ⟨Or.inr rfl, q1 (wB_iff.mpr ⟨?_, fun q hq => hall q (by have hq : q < 5 := hq; omega)⟩) _ ?_⟩
      · unfold te at ht
        rw [if_pos hlt, if_pos hL] at ht
        exact ht
      · exact hK.nxt (by rw [hb]; exact hlt) (by rw [a2]; exact nI_1 i)
    | succ j ih =>
      intro k hj hk ht hall
      have e4 : σ 2 (σ 0 5).toNatClampNeg + nI k = nI (b + k) := by rw [e2, nI_add]
      refine hX _ _ _ _ _ _ _ ?_
      refine b_ge (b := 5) rfl rfl (by omega) (by omega) (fun h => by omega) (fun h => ?_)
      refine ⟨vin e4 (by omega) (by omega), ?_⟩
      refine ⟨vp_in_nI (n := k) (N := 5) h (by omega), ?_⟩
      have e5 : σ 1 (σ 2 (σ 0 5).toNatClampNeg + nI k).toNatClampNeg = t (b + k) := by rw [clN e4 (by omega)]; exact h3 _ (by omega)
      refine ⟨fun h11 => ?_, fun h11 => ?_⟩
      · have h11 : σ 1 (σ 2 (σ 0 5).toNatClampNeg + nI k).toNatClampNeg = nI (List.getD [115, 109, 111, 107, 101] (nI k).toNatClampNeg 0) := h11
        rw [e5, nI_clamp (by omega)] at h11
        refine hX _ _ _ _ _ _ _ ?_
        have h12 := ih (k + 1) (by omega) (by omega) ht (fun q hq => by
          by_cases e : q = k
          · rw [e]; exact h11
          · exact hall q (by omega))
        rw [← nI_1 k] at h12
        exact h12
      · have h11 : ¬ σ 1 (σ 2 (σ 0 5).toNatClampNeg + nI k).toNatClampNeg = nI (List.getD [115, 109, 111, 107, 101] (nI k).toNatClampNeg 0) := h11
        rw [e5, nI_clamp (by omega)] at h11
        exact ⟨Or.inl rfl, q0 (fun z => h11 ((wB_iff.mp z).2 k h))⟩
  refine hX _ _ _ _ _ _ _ ?_
  refine ⟨vin a2 (by omega) (by omega), ?_⟩
  refine ⟨vin a2 (by omega) (by omega), ?_⟩
  refine b_eq (a := te t n b - b) (b := 5) (by rw [e2, e3, nI_sub a8]) rfl (by omega) (by omega) (fun h => ?_) (fun h => ?_)
  · refine hX _ _ _ _ _ _ _ ?_
    exact loop _ 0 rfl (by omega) (by omega) (fun q hq => by omega)
  · exact ⟨Or.inl rfl, q0 (fun z => by have z1 : te t n b = b + 5 := wB_te z (by decide); omega)⟩
theorem c_tw_6 (h : TK σ t n i) (q1 : wB t n (bg t n i) [102, 97, 114] = true → ∀ σ', TK σ' t n (i + 1) → Q (.inl (some (.int (nI 1)))) sh_8 σ') (q0 : ¬ wB t n (bg t n i) [102, 97, 114] = true → Q (.inl (some (.int (nI 0)))) sh_8 σ) : mD (d + 1) 340 [.ref 0, .ref 1006] sh_8 σ Q := by
  have hK := h
  obtain ⟨a1, a2, a3, a4, a5, a6, a7, a8⟩ := h.at0
  obtain ⟨h1, h2, h3, th, h4, h5, h6, h7, h8, h9, h10⟩ := h
  generalize hb : bg t n i = b at *
  refine ⟨rfl, fun X hX => ?_⟩
  have e2 : σ 2 (σ 0 5).toNatClampNeg = nI b := by rw [clN a2 (by omega)]; exact a3
  have e3 : σ 3 (σ 0 5).toNatClampNeg = nI (te t n b) := by rw [clN a2 (by omega)]; exact a4
  have loop : ∀ j k, 3 - k = j → k ≤ 3 → te t n b = b + 3 → (∀ q, q < k → t (b + q) = nI (List.getD [102, 97, 114] q 0)) → X 32 [some (.ref 0), some (.ref 1006), some (.int (σ 2 (σ 0 5).toNatClampNeg)), some (.int (nI k))] [] sh_8 σ 0 0 := by
    intro j
    induction j with
    | zero =>
      intro k hj hk ht hall
      refine hX _ _ _ _ _ _ _ ?_
      refine b_ge (b := 3) rfl rfl (by omega) (by omega) (fun h => ?_) (fun h => by omega)
      have hlt : b < n := by omega
      have hL : kL (t b) = true := by
        have := hall 0 (by omega)
        rw [Nat.add_zero] at this
        rw [this]
        decide +kernel
      refine hX _ _ _ _ _ _ _ ?_
      refine ⟨Or.inr rfl, q1 (wB_iff.mpr ⟨?_, fun q hq => hall q (by have hq : q < 3 := hq; omega)⟩) _ ?_⟩
      · unfold te at ht
        rw [if_pos hlt, if_pos hL] at ht
        exact ht
      · exact hK.nxt (by rw [hb]; exact hlt) (by rw [a2]; exact nI_1 i)
    | succ j ih =>
      intro k hj hk ht hall
      have e4 : σ 2 (σ 0 5).toNatClampNeg + nI k = nI (b + k) := by rw [e2, nI_add]
      refine hX _ _ _ _ _ _ _ ?_
      refine b_ge (b := 3) rfl rfl (by omega) (by omega) (fun h => by omega) (fun h => ?_)
      refine ⟨vin e4 (by omega) (by omega), ?_⟩
      refine ⟨vp_in_nI (n := k) (N := 3) h (by omega), ?_⟩
      have e5 : σ 1 (σ 2 (σ 0 5).toNatClampNeg + nI k).toNatClampNeg = t (b + k) := by rw [clN e4 (by omega)]; exact h3 _ (by omega)
      refine ⟨fun h11 => ?_, fun h11 => ?_⟩
      · have h11 : σ 1 (σ 2 (σ 0 5).toNatClampNeg + nI k).toNatClampNeg = nI (List.getD [102, 97, 114] (nI k).toNatClampNeg 0) := h11
        rw [e5, nI_clamp (by omega)] at h11
        refine hX _ _ _ _ _ _ _ ?_
        have h12 := ih (k + 1) (by omega) (by omega) ht (fun q hq => by
          by_cases e : q = k
          · rw [e]; exact h11
          · exact hall q (by omega))
        rw [← nI_1 k] at h12
        exact h12
      · have h11 : ¬ σ 1 (σ 2 (σ 0 5).toNatClampNeg + nI k).toNatClampNeg = nI (List.getD [102, 97, 114] (nI k).toNatClampNeg 0) := h11
        rw [e5, nI_clamp (by omega)] at h11
        exact ⟨Or.inl rfl, q0 (fun z => h11 ((wB_iff.mp z).2 k h))⟩
  refine hX _ _ _ _ _ _ _ ?_
  refine ⟨vin a2 (by omega) (by omega), ?_⟩
  refine ⟨vin a2 (by omega) (by omega), ?_⟩
  refine b_eq (a := te t n b - b) (b := 3) (by rw [e2, e3, nI_sub a8]) rfl (by omega) (by omega) (fun h => ?_) (fun h => ?_)
  · refine hX _ _ _ _ _ _ _ ?_
    exact loop _ 0 rfl (by omega) (by omega) (fun q hq => by omega)
  · exact ⟨Or.inl rfl, q0 (fun z => by have z1 : te t n b = b + 3 := wB_te z (by decide); omega)⟩
theorem c_tw_7 (h : TK σ t n i) (q1 : wB t n (bg t n i) [102, 117, 108, 108] = true → ∀ σ', TK σ' t n (i + 1) → Q (.inl (some (.int (nI 1)))) sh_8 σ') (q0 : ¬ wB t n (bg t n i) [102, 117, 108, 108] = true → Q (.inl (some (.int (nI 0)))) sh_8 σ) : mD (d + 1) 340 [.ref 0, .ref 1007] sh_8 σ Q := by
  have hK := h
  obtain ⟨a1, a2, a3, a4, a5, a6, a7, a8⟩ := h.at0
  obtain ⟨h1, h2, h3, th, h4, h5, h6, h7, h8, h9, h10⟩ := h
  generalize hb : bg t n i = b at *
  refine ⟨rfl, fun X hX => ?_⟩
  have e2 : σ 2 (σ 0 5).toNatClampNeg = nI b := by rw [clN a2 (by omega)]; exact a3
  have e3 : σ 3 (σ 0 5).toNatClampNeg = nI (te t n b) := by rw [clN a2 (by omega)]; exact a4
  have loop : ∀ j k, 4 - k = j → k ≤ 4 → te t n b = b + 4 → (∀ q, q < k → t (b + q) = nI (List.getD [102, 117, 108, 108] q 0)) → X 32 [some (.ref 0), some (.ref 1007), some (.int (σ 2 (σ 0 5).toNatClampNeg)), some (.int (nI k))] [] sh_8 σ 0 0 := by
    intro j
    induction j with
    | zero =>
      intro k hj hk ht hall
      refine hX _ _ _ _ _ _ _ ?_
      refine b_ge (b := 4) rfl rfl (by omega) (by omega) (fun h => ?_) (fun h => by omega)
      have hlt : b < n := by omega
      have hL : kL (t b) = true := by
        have := hall 0 (by omega)
        rw [Nat.add_zero] at this
        rw [this]
        decide +kernel
      refine hX _ _ _ _ _ _ _ ?_
      refine ⟨Or.inr rfl, q1 (wB_iff.mpr ⟨?_, fun q hq => hall q (by have hq : q < 4 := hq; omega)⟩) _ ?_⟩
      · unfold te at ht
        rw [if_pos hlt, if_pos hL] at ht
        exact ht
      · exact hK.nxt (by rw [hb]; exact hlt) (by rw [a2]; exact nI_1 i)
    | succ j ih =>
      intro k hj hk ht hall
      have e4 : σ 2 (σ 0 5).toNatClampNeg + nI k = nI (b + k) := by rw [e2, nI_add]
      refine hX _ _ _ _ _ _ _ ?_
      refine b_ge (b := 4) rfl rfl (by omega) (by omega) (fun h => by omega) (fun h => ?_)
      refine ⟨vin e4 (by omega) (by omega), ?_⟩
      refine ⟨vp_in_nI (n := k) (N := 4) h (by omega), ?_⟩
      have e5 : σ 1 (σ 2 (σ 0 5).toNatClampNeg + nI k).toNatClampNeg = t (b + k) := by rw [clN e4 (by omega)]; exact h3 _ (by omega)
      refine ⟨fun h11 => ?_, fun h11 => ?_⟩
      · have h11 : σ 1 (σ 2 (σ 0 5).toNatClampNeg + nI k).toNatClampNeg = nI (List.getD [102, 117, 108, 108] (nI k).toNatClampNeg 0) := h11
        rw [e5, nI_clamp (by omega)] at h11
        refine hX _ _ _ _ _ _ _ ?_
        have h12 := ih (k + 1) (by omega) (by omega) ht (fun q hq => by
          by_cases e : q = k
          · rw [e]; exact h11
          · exact hall q (by omega))
        rw [← nI_1 k] at h12
        exact h12
      · have h11 : ¬ σ 1 (σ 2 (σ 0 5).toNatClampNeg + nI k).toNatClampNeg = nI (List.getD [102, 117, 108, 108] (nI k).toNatClampNeg 0) := h11
        rw [e5, nI_clamp (by omega)] at h11
        exact ⟨Or.inl rfl, q0 (fun z => h11 ((wB_iff.mp z).2 k h))⟩
  refine hX _ _ _ _ _ _ _ ?_
  refine ⟨vin a2 (by omega) (by omega), ?_⟩
  refine ⟨vin a2 (by omega) (by omega), ?_⟩
  refine b_eq (a := te t n b - b) (b := 4) (by rw [e2, e3, nI_sub a8]) rfl (by omega) (by omega) (fun h => ?_) (fun h => ?_)
  · refine hX _ _ _ _ _ _ _ ?_
    exact loop _ 0 rfl (by omega) (by omega) (fun q hq => by omega)
  · exact ⟨Or.inl rfl, q0 (fun z => by have z1 : te t n b = b + 4 := wB_te z (by decide); omega)⟩
theorem c_tw_8 (h : TK σ t n i) (q1 : wB t n (bg t n i) [115, 116, 114, 101, 101, 116] = true → ∀ σ', TK σ' t n (i + 1) → Q (.inl (some (.int (nI 1)))) sh_8 σ') (q0 : ¬ wB t n (bg t n i) [115, 116, 114, 101, 101, 116] = true → Q (.inl (some (.int (nI 0)))) sh_8 σ) : mD (d + 1) 340 [.ref 0, .ref 1008] sh_8 σ Q := by
  have hK := h
  obtain ⟨a1, a2, a3, a4, a5, a6, a7, a8⟩ := h.at0
  obtain ⟨h1, h2, h3, th, h4, h5, h6, h7, h8, h9, h10⟩ := h
  generalize hb : bg t n i = b at *
  refine ⟨rfl, fun X hX => ?_⟩
  have e2 : σ 2 (σ 0 5).toNatClampNeg = nI b := by rw [clN a2 (by omega)]; exact a3
  have e3 : σ 3 (σ 0 5).toNatClampNeg = nI (te t n b) := by rw [clN a2 (by omega)]; exact a4
  have loop : ∀ j k, 6 - k = j → k ≤ 6 → te t n b = b + 6 → (∀ q, q < k → t (b + q) = nI (List.getD [115, 116, 114, 101, 101, 116] q 0)) → X 32 [some (.ref 0), some (.ref 1008), some (.int (σ 2 (σ 0 5).toNatClampNeg)), some (.int (nI k))] [] sh_8 σ 0 0 := by
    intro j
    induction j with
    | zero =>
      intro k hj hk ht hall
      refine hX _ _ _ _ _ _ _ ?_
      refine b_ge (b := 6) rfl rfl (by omega) (by omega) (fun h => ?_) (fun h => by omega)
      have hlt : b < n := by omega
      have hL : kL (t b) = true := by
        have := hall 0 (by omega)
        rw [Nat.add_zero] at this
        rw [this]
        decide +kernel
      refine hX _ _ _ _ _ _ _ ?_
      refine ⟨Or.inr rfl, q1 (wB_iff.mpr ⟨?_, fun q hq => hall q (by have hq : q < 6 := hq; omega)⟩) _ ?_⟩
      · unfold te at ht
        rw [if_pos hlt, if_pos hL] at ht
        exact ht
      · exact hK.nxt (by rw [hb]; exact hlt) (by rw [a2]; exact nI_1 i)
    | succ j ih =>
      intro k hj hk ht hall
      have e4 : σ 2 (σ 0 5).toNatClampNeg + nI k = nI (b + k) := by rw [e2, nI_add]
      refine hX _ _ _ _ _ _ _ ?_
      refine b_ge (b := 6) rfl rfl (by omega) (by omega) (fun h => by omega) (fun h => ?_)
      refine ⟨vin e4 (by omega) (by omega), ?_⟩
      refine ⟨vp_in_nI (n := k) (N := 6) h (by omega), ?_⟩
      have e5 : σ 1 (σ 2 (σ 0 5).toNatClampNeg + nI k).toNatClampNeg = t (b + k) := by rw [clN e4 (by omega)]; exact h3 _ (by omega)
      refine ⟨fun h11 => ?_, fun h11 => ?_⟩
      · have h11 : σ 1 (σ 2 (σ 0 5).toNatClampNeg + nI k).toNatClampNeg = nI (List.getD [115, 116, 114, 101, 101, 116] (nI k).toNatClampNeg 0) := h11
        rw [e5, nI_clamp (by omega)] at h11
        refine hX _ _ _ _ _ _ _ ?_
        have h12 := ih (k + 1) (by omega) (by omega) ht (fun q hq => by
          by_cases e : q = k
          · rw [e]; exact h11
          · exact hall q (by omega))
        rw [← nI_1 k] at h12
        exact h12
      · have h11 : ¬ σ 1 (σ 2 (σ 0 5).toNatClampNeg + nI k).toNatClampNeg = nI (List.getD [115, 116, 114, 101, 101, 116] (nI k).toNatClampNeg 0) := h11
        rw [e5, nI_clamp (by omega)] at h11
        exact ⟨Or.inl rfl, q0 (fun z => h11 ((wB_iff.mp z).2 k h))⟩
  refine hX _ _ _ _ _ _ _ ?_
  refine ⟨vin a2 (by omega) (by omega), ?_⟩
  refine ⟨vin a2 (by omega) (by omega), ?_⟩
  refine b_eq (a := te t n b - b) (b := 6) (by rw [e2, e3, nI_sub a8]) rfl (by omega) (by omega) (fun h => ?_) (fun h => ?_)
  · refine hX _ _ _ _ _ _ _ ?_
    exact loop _ 0 rfl (by omega) (by omega) (fun q hq => by omega)
  · exact ⟨Or.inl rfl, q0 (fun z => by have z1 : te t n b = b + 6 := wB_te z (by decide); omega)⟩
theorem c_tw_9 (h : TK σ t n i) (q1 : wB t n (bg t n i) [120] = true → ∀ σ', TK σ' t n (i + 1) → Q (.inl (some (.int (nI 1)))) sh_8 σ') (q0 : ¬ wB t n (bg t n i) [120] = true → Q (.inl (some (.int (nI 0)))) sh_8 σ) : mD (d + 1) 340 [.ref 0, .ref 1009] sh_8 σ Q := by
  have hK := h
  obtain ⟨a1, a2, a3, a4, a5, a6, a7, a8⟩ := h.at0
  obtain ⟨h1, h2, h3, th, h4, h5, h6, h7, h8, h9, h10⟩ := h
  generalize hb : bg t n i = b at *
  refine ⟨rfl, fun X hX => ?_⟩
  have e2 : σ 2 (σ 0 5).toNatClampNeg = nI b := by rw [clN a2 (by omega)]; exact a3
  have e3 : σ 3 (σ 0 5).toNatClampNeg = nI (te t n b) := by rw [clN a2 (by omega)]; exact a4
  have loop : ∀ j k, 1 - k = j → k ≤ 1 → te t n b = b + 1 → (∀ q, q < k → t (b + q) = nI (List.getD [120] q 0)) → X 32 [some (.ref 0), some (.ref 1009), some (.int (σ 2 (σ 0 5).toNatClampNeg)), some (.int (nI k))] [] sh_8 σ 0 0 := by
    intro j
    induction j with
    | zero =>
      intro k hj hk ht hall
      refine hX _ _ _ _ _ _ _ ?_
      refine b_ge (b := 1) rfl rfl (by omega) (by omega) (fun h => ?_) (fun h => by omega)
      have hlt : b < n := by omega
      have hL : kL (t b) = true := by
        have := hall 0 (by omega)
        rw [Nat.add_zero] at this
        rw [this]
        decide +kernel
      refine hX _ _ _ _ _ _ _ ?_
      refine ⟨Or.inr rfl, q1 (wB_iff.mpr ⟨?_, fun q hq => hall q (by have hq : q < 1 := hq; omega)⟩) _ ?_⟩
      · unfold te at ht
        rw [if_pos hlt, if_pos hL] at ht
        exact ht
      · exact hK.nxt (by rw [hb]; exact hlt) (by rw [a2]; exact nI_1 i)
    | succ j ih =>
      intro k hj hk ht hall
      have e4 : σ 2 (σ 0 5).toNatClampNeg + nI k = nI (b + k) := by rw [e2, nI_add]
      refine hX _ _ _ _ _ _ _ ?_
      refine b_ge (b := 1) rfl rfl (by omega) (by omega) (fun h => by omega) (fun h => ?_)
      refine ⟨vin e4 (by omega) (by omega), ?_⟩
      refine ⟨vp_in_nI (n := k) (N := 1) h (by omega), ?_⟩
      have e5 : σ 1 (σ 2 (σ 0 5).toNatClampNeg + nI k).toNatClampNeg = t (b + k) := by rw [clN e4 (by omega)]; exact h3 _ (by omega)
      refine ⟨fun h11 => ?_, fun h11 => ?_⟩
      · have h11 : σ 1 (σ 2 (σ 0 5).toNatClampNeg + nI k).toNatClampNeg = nI (List.getD [120] (nI k).toNatClampNeg 0) := h11
        rw [e5, nI_clamp (by omega)] at h11
        refine hX _ _ _ _ _ _ _ ?_
        have h12 := ih (k + 1) (by omega) (by omega) ht (fun q hq => by
          by_cases e : q = k
          · rw [e]; exact h11
          · exact hall q (by omega))
        rw [← nI_1 k] at h12
        exact h12
      · have h11 : ¬ σ 1 (σ 2 (σ 0 5).toNatClampNeg + nI k).toNatClampNeg = nI (List.getD [120] (nI k).toNatClampNeg 0) := h11
        rw [e5, nI_clamp (by omega)] at h11
        exact ⟨Or.inl rfl, q0 (fun z => h11 ((wB_iff.mp z).2 k h))⟩
  refine hX _ _ _ _ _ _ _ ?_
  refine ⟨vin a2 (by omega) (by omega), ?_⟩
  refine ⟨vin a2 (by omega) (by omega), ?_⟩
  refine b_eq (a := te t n b - b) (b := 1) (by rw [e2, e3, nI_sub a8]) rfl (by omega) (by omega) (fun h => ?_) (fun h => ?_)
  · refine hX _ _ _ _ _ _ _ ?_
    exact loop _ 0 rfl (by omega) (by omega) (fun q hq => by omega)
  · exact ⟨Or.inl rfl, q0 (fun z => by have z1 : te t n b = b + 1 := wB_te z (by decide); omega)⟩
theorem c_tw_10 (h : TK σ t n i) (q1 : wB t n (bg t n i) [121] = true → ∀ σ', TK σ' t n (i + 1) → Q (.inl (some (.int (nI 1)))) sh_8 σ') (q0 : ¬ wB t n (bg t n i) [121] = true → Q (.inl (some (.int (nI 0)))) sh_8 σ) : mD (d + 1) 340 [.ref 0, .ref 1010] sh_8 σ Q := by
  have hK := h
  obtain ⟨a1, a2, a3, a4, a5, a6, a7, a8⟩ := h.at0
  obtain ⟨h1, h2, h3, th, h4, h5, h6, h7, h8, h9, h10⟩ := h
  generalize hb : bg t n i = b at *
  refine ⟨rfl, fun X hX => ?_⟩
  have e2 : σ 2 (σ 0 5).toNatClampNeg = nI b := by rw [clN a2 (by omega)]; exact a3
  have e3 : σ 3 (σ 0 5).toNatClampNeg = nI (te t n b) := by rw [clN a2 (by omega)]; exact a4
  have loop : ∀ j k, 1 - k = j → k ≤ 1 → te t n b = b + 1 → (∀ q, q < k → t (b + q) = nI (List.getD [121] q 0)) → X 32 [some (.ref 0), some (.ref 1010), some (.int (σ 2 (σ 0 5).toNatClampNeg)), some (.int (nI k))] [] sh_8 σ 0 0 := by
    intro j
    induction j with
    | zero =>
      intro k hj hk ht hall
      refine hX _ _ _ _ _ _ _ ?_
      refine b_ge (b := 1) rfl rfl (by omega) (by omega) (fun h => ?_) (fun h => by omega)
      have hlt : b < n := by omega
      have hL : kL (t b) = true := by
        have := hall 0 (by omega)
        rw [Nat.add_zero] at this
        rw [this]
        decide +kernel
      refine hX _ _ _ _ _ _ _ ?_
      refine ⟨Or.inr rfl, q1 (wB_iff.mpr ⟨?_, fun q hq => hall q (by have hq : q < 1 := hq; omega)⟩) _ ?_⟩
      · unfold te at ht
        rw [if_pos hlt, if_pos hL] at ht
        exact ht
      · exact hK.nxt (by rw [hb]; exact hlt) (by rw [a2]; exact nI_1 i)
    | succ j ih =>
      intro k hj hk ht hall
      have e4 : σ 2 (σ 0 5).toNatClampNeg + nI k = nI (b + k) := by rw [e2, nI_add]
      refine hX _ _ _ _ _ _ _ ?_
      refine b_ge (b := 1) rfl rfl (by omega) (by omega) (fun h => by omega) (fun h => ?_)
      refine ⟨vin e4 (by omega) (by omega), ?_⟩
      refine ⟨vp_in_nI (n := k) (N := 1) h (by omega), ?_⟩
      have e5 : σ 1 (σ 2 (σ 0 5).toNatClampNeg + nI k).toNatClampNeg = t (b + k) := by rw [clN e4 (by omega)]; exact h3 _ (by omega)
      refine ⟨fun h11 => ?_, fun h11 => ?_⟩
      · have h11 : σ 1 (σ 2 (σ 0 5).toNatClampNeg + nI k).toNatClampNeg = nI (List.getD [121] (nI k).toNatClampNeg 0) := h11
        rw [e5, nI_clamp (by omega)] at h11
        refine hX _ _ _ _ _ _ _ ?_
        have h12 := ih (k + 1) (by omega) (by omega) ht (fun q hq => by
          by_cases e : q = k
          · rw [e]; exact h11
          · exact hall q (by omega))
        rw [← nI_1 k] at h12
        exact h12
      · have h11 : ¬ σ 1 (σ 2 (σ 0 5).toNatClampNeg + nI k).toNatClampNeg = nI (List.getD [121] (nI k).toNatClampNeg 0) := h11
        rw [e5, nI_clamp (by omega)] at h11
        exact ⟨Or.inl rfl, q0 (fun z => h11 ((wB_iff.mp z).2 k h))⟩
  refine hX _ _ _ _ _ _ _ ?_
  refine ⟨vin a2 (by omega) (by omega), ?_⟩
  refine ⟨vin a2 (by omega) (by omega), ?_⟩
  refine b_eq (a := te t n b - b) (b := 1) (by rw [e2, e3, nI_sub a8]) rfl (by omega) (by omega) (fun h => ?_) (fun h => ?_)
  · refine hX _ _ _ _ _ _ _ ?_
    exact loop _ 0 rfl (by omega) (by omega) (fun q hq => by omega)
  · exact ⟨Or.inl rfl, q0 (fun z => by have z1 : te t n b = b + 1 := wB_te z (by decide); omega)⟩
theorem c_tw_11 (h : TK σ t n i) (q1 : wB t n (bg t n i) [119, 97, 105, 116, 115] = true → ∀ σ', TK σ' t n (i + 1) → Q (.inl (some (.int (nI 1)))) sh_8 σ') (q0 : ¬ wB t n (bg t n i) [119, 97, 105, 116, 115] = true → Q (.inl (some (.int (nI 0)))) sh_8 σ) : mD (d + 1) 340 [.ref 0, .ref 1011] sh_8 σ Q := by
  have hK := h
  obtain ⟨a1, a2, a3, a4, a5, a6, a7, a8⟩ := h.at0
  obtain ⟨h1, h2, h3, th, h4, h5, h6, h7, h8, h9, h10⟩ := h
  generalize hb : bg t n i = b at *
  refine ⟨rfl, fun X hX => ?_⟩
  have e2 : σ 2 (σ 0 5).toNatClampNeg = nI b := by rw [clN a2 (by omega)]; exact a3
  have e3 : σ 3 (σ 0 5).toNatClampNeg = nI (te t n b) := by rw [clN a2 (by omega)]; exact a4
  have loop : ∀ j k, 5 - k = j → k ≤ 5 → te t n b = b + 5 → (∀ q, q < k → t (b + q) = nI (List.getD [119, 97, 105, 116, 115] q 0)) → X 32 [some (.ref 0), some (.ref 1011), some (.int (σ 2 (σ 0 5).toNatClampNeg)), some (.int (nI k))] [] sh_8 σ 0 0 := by
    intro j
    induction j with
    | zero =>
      intro k hj hk ht hall
      refine hX _ _ _ _ _ _ _ ?_
      refine b_ge (b := 5) rfl rfl (by omega) (by omega) (fun h => ?_) (fun h => by omega)
      have hlt : b < n := by omega
      have hL : kL (t b) = true := by
        have := hall 0 (by omega)
        rw [Nat.add_zero] at this
        rw [this]
        decide +kernel
      refine hX _ _ _ _ _ _ _ ?_
      refine ⟨Or.inr rfl, q1 (wB_iff.mpr ⟨?_, fun q hq => hall q (by have hq : q < 5 := hq; omega)⟩) _ ?_⟩
      · unfold te at ht
        rw [if_pos hlt, if_pos hL] at ht
        exact ht
      · exact hK.nxt (by rw [hb]; exact hlt) (by rw [a2]; exact nI_1 i)
    | succ j ih =>
      intro k hj hk ht hall
      have e4 : σ 2 (σ 0 5).toNatClampNeg + nI k = nI (b + k) := by rw [e2, nI_add]
      refine hX _ _ _ _ _ _ _ ?_
      refine b_ge (b := 5) rfl rfl (by omega) (by omega) (fun h => by omega) (fun h => ?_)
      refine ⟨vin e4 (by omega) (by omega), ?_⟩
      refine ⟨vp_in_nI (n := k) (N := 5) h (by omega), ?_⟩
      have e5 : σ 1 (σ 2 (σ 0 5).toNatClampNeg + nI k).toNatClampNeg = t (b + k) := by rw [clN e4 (by omega)]; exact h3 _ (by omega)
      refine ⟨fun h11 => ?_, fun h11 => ?_⟩
      · have h11 : σ 1 (σ 2 (σ 0 5).toNatClampNeg + nI k).toNatClampNeg = nI (List.getD [119, 97, 105, 116, 115] (nI k).toNatClampNeg 0) := h11
        rw [e5, nI_clamp (by omega)] at h11
        refine hX _ _ _ _ _ _ _ ?_
        have h12 := ih (k + 1) (by omega) (by omega) ht (fun q hq => by
          by_cases e : q = k
          · rw [e]; exact h11
          · exact hall q (by omega))
        rw [← nI_1 k] at h12
        exact h12
      · have h11 : ¬ σ 1 (σ 2 (σ 0 5).toNatClampNeg + nI k).toNatClampNeg = nI (List.getD [119, 97, 105, 116, 115] (nI k).toNatClampNeg 0) := h11
        rw [e5, nI_clamp (by omega)] at h11
        exact ⟨Or.inl rfl, q0 (fun z => h11 ((wB_iff.mp z).2 k h))⟩
  refine hX _ _ _ _ _ _ _ ?_
  refine ⟨vin a2 (by omega) (by omega), ?_⟩
  refine ⟨vin a2 (by omega) (by omega), ?_⟩
  refine b_eq (a := te t n b - b) (b := 5) (by rw [e2, e3, nI_sub a8]) rfl (by omega) (by omega) (fun h => ?_) (fun h => ?_)
  · refine hX _ _ _ _ _ _ _ ?_
    exact loop _ 0 rfl (by omega) (by omega) (fun q hq => by omega)
  · exact ⟨Or.inl rfl, q0 (fun z => by have z1 : te t n b = b + 5 := wB_te z (by decide); omega)⟩
theorem c_tw_12 (h : TK σ t n i) (q1 : wB t n (bg t n i) [108, 111, 97, 100, 115] = true → ∀ σ', TK σ' t n (i + 1) → Q (.inl (some (.int (nI 1)))) sh_8 σ') (q0 : ¬ wB t n (bg t n i) [108, 111, 97, 100, 115] = true → Q (.inl (some (.int (nI 0)))) sh_8 σ) : mD (d + 1) 340 [.ref 0, .ref 1012] sh_8 σ Q := by
  have hK := h
  obtain ⟨a1, a2, a3, a4, a5, a6, a7, a8⟩ := h.at0
  obtain ⟨h1, h2, h3, th, h4, h5, h6, h7, h8, h9, h10⟩ := h
  generalize hb : bg t n i = b at *
  refine ⟨rfl, fun X hX => ?_⟩
  have e2 : σ 2 (σ 0 5).toNatClampNeg = nI b := by rw [clN a2 (by omega)]; exact a3
  have e3 : σ 3 (σ 0 5).toNatClampNeg = nI (te t n b) := by rw [clN a2 (by omega)]; exact a4
  have loop : ∀ j k, 5 - k = j → k ≤ 5 → te t n b = b + 5 → (∀ q, q < k → t (b + q) = nI (List.getD [108, 111, 97, 100, 115] q 0)) → X 32 [some (.ref 0), some (.ref 1012), some (.int (σ 2 (σ 0 5).toNatClampNeg)), some (.int (nI k))] [] sh_8 σ 0 0 := by
    intro j
    induction j with
    | zero =>
      intro k hj hk ht hall
      refine hX _ _ _ _ _ _ _ ?_
      refine b_ge (b := 5) rfl rfl (by omega) (by omega) (fun h => ?_) (fun h => by omega)
      have hlt : b < n := by omega
      have hL : kL (t b) = true := by
        have := hall 0 (by omega)
        rw [Nat.add_zero] at this
        rw [this]
        decide +kernel
      refine hX _ _ _ _ _ _ _ ?_
      refine ⟨Or.inr rfl, q1 (wB_iff.mpr ⟨?_, fun q hq => hall q (by have hq : q < 5 := hq; omega)⟩) _ ?_⟩
      · unfold te at ht
        rw [if_pos hlt, if_pos hL] at ht
        exact ht
      · exact hK.nxt (by rw [hb]; exact hlt) (by rw [a2]; exact nI_1 i)
    | succ j ih =>
      intro k hj hk ht hall
      have e4 : σ 2 (σ 0 5).toNatClampNeg + nI k = nI (b + k) := by rw [e2, nI_add]
      refine hX _ _ _ _ _ _ _ ?_
      refine b_ge (b := 5) rfl rfl (by omega) (by omega) (fun h => by omega) (fun h => ?_)
      refine ⟨vin e4 (by omega) (by omega), ?_⟩
      refine ⟨vp_in_nI (n := k) (N := 5) h (by omega), ?_⟩
      have e5 : σ 1 (σ 2 (σ 0 5).toNatClampNeg + nI k).toNatClampNeg = t (b + k) := by rw [clN e4 (by omega)]; exact h3 _ (by omega)
      refine ⟨fun h11 => ?_, fun h11 => ?_⟩
      · have h11 : σ 1 (σ 2 (σ 0 5).toNatClampNeg + nI k).toNatClampNeg = nI (List.getD [108, 111, 97, 100, 115] (nI k).toNatClampNeg 0) := h11
        rw [e5, nI_clamp (by omega)] at h11
        refine hX _ _ _ _ _ _ _ ?_
        have h12 := ih (k + 1) (by omega) (by omega) ht (fun q hq => by
          by_cases e : q = k
          · rw [e]; exact h11
          · exact hall q (by omega))
        rw [← nI_1 k] at h12
        exact h12
      · have h11 : ¬ σ 1 (σ 2 (σ 0 5).toNatClampNeg + nI k).toNatClampNeg = nI (List.getD [108, 111, 97, 100, 115] (nI k).toNatClampNeg 0) := h11
        rw [e5, nI_clamp (by omega)] at h11
        exact ⟨Or.inl rfl, q0 (fun z => h11 ((wB_iff.mp z).2 k h))⟩
  refine hX _ _ _ _ _ _ _ ?_
  refine ⟨vin a2 (by omega) (by omega), ?_⟩
  refine ⟨vin a2 (by omega) (by omega), ?_⟩
  refine b_eq (a := te t n b - b) (b := 5) (by rw [e2, e3, nI_sub a8]) rfl (by omega) (by omega) (fun h => ?_) (fun h => ?_)
  · refine hX _ _ _ _ _ _ _ ?_
    exact loop _ 0 rfl (by omega) (by omega) (fun q hq => by omega)
  · exact ⟨Or.inl rfl, q0 (fun z => by have z1 : te t n b = b + 5 := wB_te z (by decide); omega)⟩
theorem c_tw_13 (h : TK σ t n i) (q1 : wB t n (bg t n i) [116, 105, 108, 108] = true → ∀ σ', TK σ' t n (i + 1) → Q (.inl (some (.int (nI 1)))) sh_8 σ') (q0 : ¬ wB t n (bg t n i) [116, 105, 108, 108] = true → Q (.inl (some (.int (nI 0)))) sh_8 σ) : mD (d + 1) 340 [.ref 0, .ref 1013] sh_8 σ Q := by
  have hK := h
  obtain ⟨a1, a2, a3, a4, a5, a6, a7, a8⟩ := h.at0
  obtain ⟨h1, h2, h3, th, h4, h5, h6, h7, h8, h9, h10⟩ := h
  generalize hb : bg t n i = b at *
  refine ⟨rfl, fun X hX => ?_⟩
  have e2 : σ 2 (σ 0 5).toNatClampNeg = nI b := by rw [clN a2 (by omega)]; exact a3
  have e3 : σ 3 (σ 0 5).toNatClampNeg = nI (te t n b) := by rw [clN a2 (by omega)]; exact a4
  have loop : ∀ j k, 4 - k = j → k ≤ 4 → te t n b = b + 4 → (∀ q, q < k → t (b + q) = nI (List.getD [116, 105, 108, 108] q 0)) → X 32 [some (.ref 0), some (.ref 1013), some (.int (σ 2 (σ 0 5).toNatClampNeg)), some (.int (nI k))] [] sh_8 σ 0 0 := by
    intro j
    induction j with
    | zero =>
      intro k hj hk ht hall
      refine hX _ _ _ _ _ _ _ ?_
      refine b_ge (b := 4) rfl rfl (by omega) (by omega) (fun h => ?_) (fun h => by omega)
      have hlt : b < n := by omega
      have hL : kL (t b) = true := by
        have := hall 0 (by omega)
        rw [Nat.add_zero] at this
        rw [this]
        decide +kernel
      refine hX _ _ _ _ _ _ _ ?_
      refine ⟨Or.inr rfl, q1 (wB_iff.mpr ⟨?_, fun q hq => hall q (by have hq : q < 4 := hq; omega)⟩) _ ?_⟩
      · unfold te at ht
        rw [if_pos hlt, if_pos hL] at ht
        exact ht
      · exact hK.nxt (by rw [hb]; exact hlt) (by rw [a2]; exact nI_1 i)
    | succ j ih =>
      intro k hj hk ht hall
      have e4 : σ 2 (σ 0 5).toNatClampNeg + nI k = nI (b + k) := by rw [e2, nI_add]
      refine hX _ _ _ _ _ _ _ ?_
      refine b_ge (b := 4) rfl rfl (by omega) (by omega) (fun h => by omega) (fun h => ?_)
      refine ⟨vin e4 (by omega) (by omega), ?_⟩
      refine ⟨vp_in_nI (n := k) (N := 4) h (by omega), ?_⟩
      have e5 : σ 1 (σ 2 (σ 0 5).toNatClampNeg + nI k).toNatClampNeg = t (b + k) := by rw [clN e4 (by omega)]; exact h3 _ (by omega)
      refine ⟨fun h11 => ?_, fun h11 => ?_⟩
      · have h11 : σ 1 (σ 2 (σ 0 5).toNatClampNeg + nI k).toNatClampNeg = nI (List.getD [116, 105, 108, 108] (nI k).toNatClampNeg 0) := h11
        rw [e5, nI_clamp (by omega)] at h11
        refine hX _ _ _ _ _ _ _ ?_
        have h12 := ih (k + 1) (by omega) (by omega) ht (fun q hq => by
          by_cases e : q = k
          · rw [e]; exact h11
          · exact hall q (by omega))
        rw [← nI_1 k] at h12
        exact h12
      · have h11 : ¬ σ 1 (σ 2 (σ 0 5).toNatClampNeg + nI k).toNatClampNeg = nI (List.getD [116, 105, 108, 108] (nI k).toNatClampNeg 0) := h11
        rw [e5, nI_clamp (by omega)] at h11
        exact ⟨Or.inl rfl, q0 (fun z => h11 ((wB_iff.mp z).2 k h))⟩
  refine hX _ _ _ _ _ _ _ ?_
  refine ⟨vin a2 (by omega) (by omega), ?_⟩
  refine ⟨vin a2 (by omega) (by omega), ?_⟩
  refine b_eq (a := te t n b - b) (b := 4) (by rw [e2, e3, nI_sub a8]) rfl (by omega) (by omega) (fun h => ?_) (fun h => ?_)
  · refine hX _ _ _ _ _ _ _ ?_
    exact loop _ 0 rfl (by omega) (by omega) (fun q hq => by omega)
  · exact ⟨Or.inl rfl, q0 (fun z => by have z1 : te t n b = b + 4 := wB_te z (by decide); omega)⟩
theorem c_tw_14 (h : TK σ t n i) (q1 : wB t n (bg t n i) [100, 97, 121] = true → ∀ σ', TK σ' t n (i + 1) → Q (.inl (some (.int (nI 1)))) sh_8 σ') (q0 : ¬ wB t n (bg t n i) [100, 97, 121] = true → Q (.inl (some (.int (nI 0)))) sh_8 σ) : mD (d + 1) 340 [.ref 0, .ref 1014] sh_8 σ Q := by
  have hK := h
  obtain ⟨a1, a2, a3, a4, a5, a6, a7, a8⟩ := h.at0
  obtain ⟨h1, h2, h3, th, h4, h5, h6, h7, h8, h9, h10⟩ := h
  generalize hb : bg t n i = b at *
  refine ⟨rfl, fun X hX => ?_⟩
  have e2 : σ 2 (σ 0 5).toNatClampNeg = nI b := by rw [clN a2 (by omega)]; exact a3
  have e3 : σ 3 (σ 0 5).toNatClampNeg = nI (te t n b) := by rw [clN a2 (by omega)]; exact a4
  have loop : ∀ j k, 3 - k = j → k ≤ 3 → te t n b = b + 3 → (∀ q, q < k → t (b + q) = nI (List.getD [100, 97, 121] q 0)) → X 32 [some (.ref 0), some (.ref 1014), some (.int (σ 2 (σ 0 5).toNatClampNeg)), some (.int (nI k))] [] sh_8 σ 0 0 := by
    intro j
    induction j with
    | zero =>
      intro k hj hk ht hall
      refine hX _ _ _ _ _ _ _ ?_
      refine b_ge (b := 3) rfl rfl (by omega) (by omega) (fun h => ?_) (fun h => by omega)
      have hlt : b < n := by omega
      have hL : kL (t b) = true := by
        have := hall 0 (by omega)
        rw [Nat.add_zero] at this
        rw [this]
        decide +kernel
      refine hX _ _ _ _ _ _ _ ?_
      refine ⟨Or.inr rfl, q1 (wB_iff.mpr ⟨?_, fun q hq => hall q (by have hq : q < 3 := hq; omega)⟩) _ ?_⟩
      · unfold te at ht
        rw [if_pos hlt, if_pos hL] at ht
        exact ht
      · exact hK.nxt (by rw [hb]; exact hlt) (by rw [a2]; exact nI_1 i)
    | succ j ih =>
      intro k hj hk ht hall
      have e4 : σ 2 (σ 0 5).toNatClampNeg + nI k = nI (b + k) := by rw [e2, nI_add]
      refine hX _ _ _ _ _ _ _ ?_
      refine b_ge (b := 3) rfl rfl (by omega) (by omega) (fun h => by omega) (fun h => ?_)
      refine ⟨vin e4 (by omega) (by omega), ?_⟩
      refine ⟨vp_in_nI (n := k) (N := 3) h (by omega), ?_⟩
      have e5 : σ 1 (σ 2 (σ 0 5).toNatClampNeg + nI k).toNatClampNeg = t (b + k) := by rw [clN e4 (by omega)]; exact h3 _ (by omega)
      refine ⟨fun h11 => ?_, fun h11 => ?_⟩
      · have h11 : σ 1 (σ 2 (σ 0 5).toNatClampNeg + nI k).toNatClampNeg = nI (List.getD [100, 97, 121] (nI k).toNatClampNeg 0) := h11
        rw [e5, nI_clamp (by omega)] at h11
        refine hX _ _ _ _ _ _ _ ?_
        have h12 := ih (k + 1) (by omega) (by omega) ht (fun q hq => by
          by_cases e : q = k
          · rw [e]; exact h11
          · exact hall q (by omega))
        rw [← nI_1 k] at h12
        exact h12
      · have h11 : ¬ σ 1 (σ 2 (σ 0 5).toNatClampNeg + nI k).toNatClampNeg = nI (List.getD [100, 97, 121] (nI k).toNatClampNeg 0) := h11
        rw [e5, nI_clamp (by omega)] at h11
        exact ⟨Or.inl rfl, q0 (fun z => h11 ((wB_iff.mp z).2 k h))⟩
  refine hX _ _ _ _ _ _ _ ?_
  refine ⟨vin a2 (by omega) (by omega), ?_⟩
  refine ⟨vin a2 (by omega) (by omega), ?_⟩
  refine b_eq (a := te t n b - b) (b := 3) (by rw [e2, e3, nI_sub a8]) rfl (by omega) (by omega) (fun h => ?_) (fun h => ?_)
  · refine hX _ _ _ _ _ _ _ ?_
    exact loop _ 0 rfl (by omega) (by omega) (fun q hq => by omega)
  · exact ⟨Or.inl rfl, q0 (fun z => by have z1 : te t n b = b + 3 := wB_te z (by decide); omega)⟩
theorem c_tw_15 (h : TK σ t n i) (q1 : wB t n (bg t n i) [97, 110, 100] = true → ∀ σ', TK σ' t n (i + 1) → Q (.inl (some (.int (nI 1)))) sh_8 σ') (q0 : ¬ wB t n (bg t n i) [97, 110, 100] = true → Q (.inl (some (.int (nI 0)))) sh_8 σ) : mD (d + 1) 340 [.ref 0, .ref 1015] sh_8 σ Q := by
  have hK := h
  obtain ⟨a1, a2, a3, a4, a5, a6, a7, a8⟩ := h.at0
  obtain ⟨h1, h2, h3, th, h4, h5, h6, h7, h8, h9, h10⟩ := h
  generalize hb : bg t n i = b at *
  refine ⟨rfl, fun X hX => ?_⟩
  have e2 : σ 2 (σ 0 5).toNatClampNeg = nI b := by rw [clN a2 (by omega)]; exact a3
  have e3 : σ 3 (σ 0 5).toNatClampNeg = nI (te t n b) := by rw [clN a2 (by omega)]; exact a4
  have loop : ∀ j k, 3 - k = j → k ≤ 3 → te t n b = b + 3 → (∀ q, q < k → t (b + q) = nI (List.getD [97, 110, 100] q 0)) → X 32 [some (.ref 0), some (.ref 1015), some (.int (σ 2 (σ 0 5).toNatClampNeg)), some (.int (nI k))] [] sh_8 σ 0 0 := by
    intro j
    induction j with
    | zero =>
      intro k hj hk ht hall
      refine hX _ _ _ _ _ _ _ ?_
      refine b_ge (b := 3) rfl rfl (by omega) (by omega) (fun h => ?_) (fun h => by omega)
      have hlt : b < n := by omega
      have hL : kL (t b) = true := by
        have := hall 0 (by omega)
        rw [Nat.add_zero] at this
        rw [this]
        decide +kernel
      refine hX _ _ _ _ _ _ _ ?_
      refine ⟨Or.inr rfl, q1 (wB_iff.mpr ⟨?_, fun q hq => hall q (by have hq : q < 3 := hq; omega)⟩) _ ?_⟩
      · unfold te at ht
        rw [if_pos hlt, if_pos hL] at ht
        exact ht
      · exact hK.nxt (by rw [hb]; exact hlt) (by rw [a2]; exact nI_1 i)
    | succ j ih =>
      intro k hj hk ht hall
      have e4 : σ 2 (σ 0 5).toNatClampNeg + nI k = nI (b + k) := by rw [e2, nI_add]
      refine hX _ _ _ _ _ _ _ ?_
      refine b_ge (b := 3) rfl rfl (by omega) (by omega) (fun h => by omega) (fun h => ?_)
      refine ⟨vin e4 (by omega) (by omega), ?_⟩
      refine ⟨vp_in_nI (n := k) (N := 3) h (by omega), ?_⟩
      have e5 : σ 1 (σ 2 (σ 0 5).toNatClampNeg + nI k).toNatClampNeg = t (b + k) := by rw [clN e4 (by omega)]; exact h3 _ (by omega)
      refine ⟨fun h11 => ?_, fun h11 => ?_⟩
      · have h11 : σ 1 (σ 2 (σ 0 5).toNatClampNeg + nI k).toNatClampNeg = nI (List.getD [97, 110, 100] (nI k).toNatClampNeg 0) := h11
        rw [e5, nI_clamp (by omega)] at h11
        refine hX _ _ _ _ _ _ _ ?_
        have h12 := ih (k + 1) (by omega) (by omega) ht (fun q hq => by
          by_cases e : q = k
          · rw [e]; exact h11
          · exact hall q (by omega))
        rw [← nI_1 k] at h12
        exact h12
      · have h11 : ¬ σ 1 (σ 2 (σ 0 5).toNatClampNeg + nI k).toNatClampNeg = nI (List.getD [97, 110, 100] (nI k).toNatClampNeg 0) := h11
        rw [e5, nI_clamp (by omega)] at h11
        exact ⟨Or.inl rfl, q0 (fun z => h11 ((wB_iff.mp z).2 k h))⟩
  refine hX _ _ _ _ _ _ _ ?_
  refine ⟨vin a2 (by omega) (by omega), ?_⟩
  refine ⟨vin a2 (by omega) (by omega), ?_⟩
  refine b_eq (a := te t n b - b) (b := 3) (by rw [e2, e3, nI_sub a8]) rfl (by omega) (by omega) (fun h => ?_) (fun h => ?_)
  · refine hX _ _ _ _ _ _ _ ?_
    exact loop _ 0 rfl (by omega) (by omega) (fun q hq => by omega)
  · exact ⟨Or.inl rfl, q0 (fun z => by have z1 : te t n b = b + 3 := wB_te z (by decide); omega)⟩
theorem c_tw_16 (h : TK σ t n i) (q1 : wB t n (bg t n i) [111, 114] = true → ∀ σ', TK σ' t n (i + 1) → Q (.inl (some (.int (nI 1)))) sh_8 σ') (q0 : ¬ wB t n (bg t n i) [111, 114] = true → Q (.inl (some (.int (nI 0)))) sh_8 σ) : mD (d + 1) 340 [.ref 0, .ref 1016] sh_8 σ Q := by
  have hK := h
  obtain ⟨a1, a2, a3, a4, a5, a6, a7, a8⟩ := h.at0
  obtain ⟨h1, h2, h3, th, h4, h5, h6, h7, h8, h9, h10⟩ := h
  generalize hb : bg t n i = b at *
  refine ⟨rfl, fun X hX => ?_⟩
  have e2 : σ 2 (σ 0 5).toNatClampNeg = nI b := by rw [clN a2 (by omega)]; exact a3
  have e3 : σ 3 (σ 0 5).toNatClampNeg = nI (te t n b) := by rw [clN a2 (by omega)]; exact a4
  have loop : ∀ j k, 2 - k = j → k ≤ 2 → te t n b = b + 2 → (∀ q, q < k → t (b + q) = nI (List.getD [111, 114] q 0)) → X 32 [some (.ref 0), some (.ref 1016), some (.int (σ 2 (σ 0 5).toNatClampNeg)), some (.int (nI k))] [] sh_8 σ 0 0 := by
    intro j
    induction j with
    | zero =>
      intro k hj hk ht hall
      refine hX _ _ _ _ _ _ _ ?_
      refine b_ge (b := 2) rfl rfl (by omega) (by omega) (fun h => ?_) (fun h => by omega)
      have hlt : b < n := by omega
      have hL : kL (t b) = true := by
        have := hall 0 (by omega)
        rw [Nat.add_zero] at this
        rw [this]
        decide +kernel
      refine hX _ _ _ _ _ _ _ ?_
      refine ⟨Or.inr rfl, q1 (wB_iff.mpr ⟨?_, fun q hq => hall q (by have hq : q < 2 := hq; omega)⟩) _ ?_⟩
      · unfold te at ht
        rw [if_pos hlt, if_pos hL] at ht
        exact ht
      · exact hK.nxt (by rw [hb]; exact hlt) (by rw [a2]; exact nI_1 i)
    | succ j ih =>
      intro k hj hk ht hall
      have e4 : σ 2 (σ 0 5).toNatClampNeg + nI k = nI (b + k) := by rw [e2, nI_add]
      refine hX _ _ _ _ _ _ _ ?_
      refine b_ge (b := 2) rfl rfl (by omega) (by omega) (fun h => by omega) (fun h => ?_)
      refine ⟨vin e4 (by omega) (by omega), ?_⟩
      refine ⟨vp_in_nI (n := k) (N := 2) h (by omega), ?_⟩
      have e5 : σ 1 (σ 2 (σ 0 5).toNatClampNeg + nI k).toNatClampNeg = t (b + k) := by rw [clN e4 (by omega)]; exact h3 _ (by omega)
      refine ⟨fun h11 => ?_, fun h11 => ?_⟩
      · have h11 : σ 1 (σ 2 (σ 0 5).toNatClampNeg + nI k).toNatClampNeg = nI (List.getD [111, 114] (nI k).toNatClampNeg 0) := h11
        rw [e5, nI_clamp (by omega)] at h11
        refine hX _ _ _ _ _ _ _ ?_
        have h12 := ih (k + 1) (by omega) (by omega) ht (fun q hq => by
          by_cases e : q = k
          · rw [e]; exact h11
          · exact hall q (by omega))
        rw [← nI_1 k] at h12
        exact h12
      · have h11 : ¬ σ 1 (σ 2 (σ 0 5).toNatClampNeg + nI k).toNatClampNeg = nI (List.getD [111, 114] (nI k).toNatClampNeg 0) := h11
        rw [e5, nI_clamp (by omega)] at h11
        exact ⟨Or.inl rfl, q0 (fun z => h11 ((wB_iff.mp z).2 k h))⟩
  refine hX _ _ _ _ _ _ _ ?_
  refine ⟨vin a2 (by omega) (by omega), ?_⟩
  refine ⟨vin a2 (by omega) (by omega), ?_⟩
  refine b_eq (a := te t n b - b) (b := 2) (by rw [e2, e3, nI_sub a8]) rfl (by omega) (by omega) (fun h => ?_) (fun h => ?_)
  · refine hX _ _ _ _ _ _ _ ?_
    exact loop _ 0 rfl (by omega) (by omega) (fun q hq => by omega)
  · exact ⟨Or.inl rfl, q0 (fun z => by have z1 : te t n b = b + 2 := wB_te z (by decide); omega)⟩
theorem c_tw_17 (h : TK σ t n i) (q1 : wB t n (bg t n i) [97, 116] = true → ∀ σ', TK σ' t n (i + 1) → Q (.inl (some (.int (nI 1)))) sh_8 σ') (q0 : ¬ wB t n (bg t n i) [97, 116] = true → Q (.inl (some (.int (nI 0)))) sh_8 σ) : mD (d + 1) 340 [.ref 0, .ref 1017] sh_8 σ Q := by
  have hK := h
  obtain ⟨a1, a2, a3, a4, a5, a6, a7, a8⟩ := h.at0
  obtain ⟨h1, h2, h3, th, h4, h5, h6, h7, h8, h9, h10⟩ := h
  generalize hb : bg t n i = b at *
  refine ⟨rfl, fun X hX => ?_⟩
  have e2 : σ 2 (σ 0 5).toNatClampNeg = nI b := by rw [clN a2 (by omega)]; exact a3
  have e3 : σ 3 (σ 0 5).toNatClampNeg = nI (te t n b) := by rw [clN a2 (by omega)]; exact a4
  have loop : ∀ j k, 2 - k = j → k ≤ 2 → te t n b = b + 2 → (∀ q, q < k → t (b + q) = nI (List.getD [97, 116] q 0)) → X 32 [some (.ref 0), some (.ref 1017), some (.int (σ 2 (σ 0 5).toNatClampNeg)), some (.int (nI k))] [] sh_8 σ 0 0 := by
    intro j
    induction j with
    | zero =>
      intro k hj hk ht hall
      refine hX _ _ _ _ _ _ _ ?_
      refine b_ge (b := 2) rfl rfl (by omega) (by omega) (fun h => ?_) (fun h => by omega)
      have hlt : b < n := by omega
      have hL : kL (t b) = true := by
        have := hall 0 (by omega)
        rw [Nat.add_zero] at this
        rw [this]
        decide +kernel
      refine hX _ _ _ _ _ _ _ ?_
      refine ⟨Or.inr rfl, q1 (wB_iff.mpr ⟨?_, fun q hq => hall q (by have hq : q < 2 := hq; omega)⟩) _ ?_⟩
      · unfold te at ht
        rw [if_pos hlt, if_pos hL] at ht
        exact ht
      · exact hK.nxt (by rw [hb]; exact hlt) (by rw [a2]; exact nI_1 i)
    | succ j ih =>
      intro k hj hk ht hall
      have e4 : σ 2 (σ 0 5).toNatClampNeg + nI k = nI (b + k) := by rw [e2, nI_add]
      refine hX _ _ _ _ _ _ _ ?_
      refine b_ge (b := 2) rfl rfl (by omega) (by omega) (fun h => by omega) (fun h => ?_)
      refine ⟨vin e4 (by omega) (by omega), ?_⟩
      refine ⟨vp_in_nI (n := k) (N := 2) h (by omega), ?_⟩
      have e5 : σ 1 (σ 2 (σ 0 5).toNatClampNeg + nI k).toNatClampNeg = t (b + k) := by rw [clN e4 (by omega)]; exact h3 _ (by omega)
      refine ⟨fun h11 => ?_, fun h11 => ?_⟩
      · have h11 : σ 1 (σ 2 (σ 0 5).toNatClampNeg + nI k).toNatClampNeg = nI (List.getD [97, 116] (nI k).toNatClampNeg 0) := h11
        rw [e5, nI_clamp (by omega)] at h11
        refine hX _ _ _ _ _ _ _ ?_
        have h12 := ih (k + 1) (by omega) (by omega) ht (fun q hq => by
          by_cases e : q = k
          · rw [e]; exact h11
          · exact hall q (by omega))
        rw [← nI_1 k] at h12
        exact h12
      · have h11 : ¬ σ 1 (σ 2 (σ 0 5).toNatClampNeg + nI k).toNatClampNeg = nI (List.getD [97, 116] (nI k).toNatClampNeg 0) := h11
        rw [e5, nI_clamp (by omega)] at h11
        exact ⟨Or.inl rfl, q0 (fun z => h11 ((wB_iff.mp z).2 k h))⟩
  refine hX _ _ _ _ _ _ _ ?_
  refine ⟨vin a2 (by omega) (by omega), ?_⟩
  refine ⟨vin a2 (by omega) (by omega), ?_⟩
  refine b_eq (a := te t n b - b) (b := 2) (by rw [e2, e3, nI_sub a8]) rfl (by omega) (by omega) (fun h => ?_) (fun h => ?_)
  · refine hX _ _ _ _ _ _ _ ?_
    exact loop _ 0 rfl (by omega) (by omega) (fun q hq => by omega)
  · exact ⟨Or.inl rfl, q0 (fun z => by have z1 : te t n b = b + 2 := wB_te z (by decide); omega)⟩
theorem c_tw_18 (h : TK σ t n i) (q1 : wB t n (bg t n i) [109, 105, 120] = true → ∀ σ', TK σ' t n (i + 1) → Q (.inl (some (.int (nI 1)))) sh_8 σ') (q0 : ¬ wB t n (bg t n i) [109, 105, 120] = true → Q (.inl (some (.int (nI 0)))) sh_8 σ) : mD (d + 1) 340 [.ref 0, .ref 1018] sh_8 σ Q := by
  have hK := h
  obtain ⟨a1, a2, a3, a4, a5, a6, a7, a8⟩ := h.at0
  obtain ⟨h1, h2, h3, th, h4, h5, h6, h7, h8, h9, h10⟩ := h
  generalize hb : bg t n i = b at *
  refine ⟨rfl, fun X hX => ?_⟩
  have e2 : σ 2 (σ 0 5).toNatClampNeg = nI b := by rw [clN a2 (by omega)]; exact a3
  have e3 : σ 3 (σ 0 5).toNatClampNeg = nI (te t n b) := by rw [clN a2 (by omega)]; exact a4
  have loop : ∀ j k, 3 - k = j → k ≤ 3 → te t n b = b + 3 → (∀ q, q < k → t (b + q) = nI (List.getD [109, 105, 120] q 0)) → X 32 [some (.ref 0), some (.ref 1018), some (.int (σ 2 (σ 0 5).toNatClampNeg)), some (.int (nI k))] [] sh_8 σ 0 0 := by
    intro j
    induction j with
    | zero =>
      intro k hj hk ht hall
      refine hX _ _ _ _ _ _ _ ?_
      refine b_ge (b := 3) rfl rfl (by omega) (by omega) (fun h => ?_) (fun h => by omega)
      have hlt : b < n := by omega
      have hL : kL (t b) = true := by
        have := hall 0 (by omega)
        rw [Nat.add_zero] at this
        rw [this]
        decide +kernel
      refine hX _ _ _ _ _ _ _ ?_
      refine ⟨Or.inr rfl, q1 (wB_iff.mpr ⟨?_, fun q hq => hall q (by have hq : q < 3 := hq; omega)⟩) _ ?_⟩
      · unfold te at ht
        rw [if_pos hlt, if_pos hL] at ht
        exact ht
      · exact hK.nxt (by rw [hb]; exact hlt) (by rw [a2]; exact nI_1 i)
    | succ j ih =>
      intro k hj hk ht hall
      have e4 : σ 2 (σ 0 5).toNatClampNeg + nI k = nI (b + k) := by rw [e2, nI_add]
      refine hX _ _ _ _ _ _ _ ?_
      refine b_ge (b := 3) rfl rfl (by omega) (by omega) (fun h => by omega) (fun h => ?_)
      refine ⟨vin e4 (by omega) (by omega), ?_⟩
      refine ⟨vp_in_nI (n := k) (N := 3) h (by omega), ?_⟩
      have e5 : σ 1 (σ 2 (σ 0 5).toNatClampNeg + nI k).toNatClampNeg = t (b + k) := by rw [clN e4 (by omega)]; exact h3 _ (by omega)
      refine ⟨fun h11 => ?_, fun h11 => ?_⟩
      · have h11 : σ 1 (σ 2 (σ 0 5).toNatClampNeg + nI k).toNatClampNeg = nI (List.getD [109, 105, 120] (nI k).toNatClampNeg 0) := h11
        rw [e5, nI_clamp (by omega)] at h11
        refine hX _ _ _ _ _ _ _ ?_
        have h12 := ih (k + 1) (by omega) (by omega) ht (fun q hq => by
          by_cases e : q = k
          · rw [e]; exact h11
          · exact hall q (by omega))
        rw [← nI_1 k] at h12
        exact h12
      · have h11 : ¬ σ 1 (σ 2 (σ 0 5).toNatClampNeg + nI k).toNatClampNeg = nI (List.getD [109, 105, 120] (nI k).toNatClampNeg 0) := h11
        rw [e5, nI_clamp (by omega)] at h11
        exact ⟨Or.inl rfl, q0 (fun z => h11 ((wB_iff.mp z).2 k h))⟩
  refine hX _ _ _ _ _ _ _ ?_
  refine ⟨vin a2 (by omega) (by omega), ?_⟩
  refine ⟨vin a2 (by omega) (by omega), ?_⟩
  refine b_eq (a := te t n b - b) (b := 3) (by rw [e2, e3, nI_sub a8]) rfl (by omega) (by omega) (fun h => ?_) (fun h => ?_)
  · refine hX _ _ _ _ _ _ _ ?_
    exact loop _ 0 rfl (by omega) (by omega) (fun q hq => by omega)
  · exact ⟨Or.inl rfl, q0 (fun z => by have z1 : te t n b = b + 3 := wB_te z (by decide); omega)⟩
theorem c_tw_19 (h : TK σ t n i) (q1 : wB t n (bg t n i) [99, 97, 114, 116] = true → ∀ σ', TK σ' t n (i + 1) → Q (.inl (some (.int (nI 1)))) sh_8 σ') (q0 : ¬ wB t n (bg t n i) [99, 97, 114, 116] = true → Q (.inl (some (.int (nI 0)))) sh_8 σ) : mD (d + 1) 340 [.ref 0, .ref 1019] sh_8 σ Q := by
  have hK := h
  obtain ⟨a1, a2, a3, a4, a5, a6, a7, a8⟩ := h.at0
  obtain ⟨h1, h2, h3, th, h4, h5, h6, h7, h8, h9, h10⟩ := h
  generalize hb : bg t n i = b at *
  refine ⟨rfl, fun X hX => ?_⟩
  have e2 : σ 2 (σ 0 5).toNatClampNeg = nI b := by rw [clN a2 (by omega)]; exact a3
  have e3 : σ 3 (σ 0 5).toNatClampNeg = nI (te t n b) := by rw [clN a2 (by omega)]; exact a4
  have loop : ∀ j k, 4 - k = j → k ≤ 4 → te t n b = b + 4 → (∀ q, q < k → t (b + q) = nI (List.getD [99, 97, 114, 116] q 0)) → X 32 [some (.ref 0), some (.ref 1019), some (.int (σ 2 (σ 0 5).toNatClampNeg)), some (.int (nI k))] [] sh_8 σ 0 0 := by
    intro j
    induction j with
    | zero =>
      intro k hj hk ht hall
      refine hX _ _ _ _ _ _ _ ?_
      refine b_ge (b := 4) rfl rfl (by omega) (by omega) (fun h => ?_) (fun h => by omega)
      have hlt : b < n := by omega
      have hL : kL (t b) = true := by
        have := hall 0 (by omega)
        rw [Nat.add_zero] at this
        rw [this]
        decide +kernel
      refine hX _ _ _ _ _ _ _ ?_
      refine ⟨Or.inr rfl, q1 (wB_iff.mpr ⟨?_, fun q hq => hall q (by have hq : q < 4 := hq; omega)⟩) _ ?_⟩
      · unfold te at ht
        rw [if_pos hlt, if_pos hL] at ht
        exact ht
      · exact hK.nxt (by rw [hb]; exact hlt) (by rw [a2]; exact nI_1 i)
    | succ j ih =>
      intro k hj hk ht hall
      have e4 : σ 2 (σ 0 5).toNatClampNeg + nI k = nI (b + k) := by rw [e2, nI_add]
      refine hX _ _ _ _ _ _ _ ?_
      refine b_ge (b := 4) rfl rfl (by omega) (by omega) (fun h => by omega) (fun h => ?_)
      refine ⟨vin e4 (by omega) (by omega), ?_⟩
      refine ⟨vp_in_nI (n := k) (N := 4) h (by omega), ?_⟩
      have e5 : σ 1 (σ 2 (σ 0 5).toNatClampNeg + nI k).toNatClampNeg = t (b + k) := by rw [clN e4 (by omega)]; exact h3 _ (by omega)
      refine ⟨fun h11 => ?_, fun h11 => ?_⟩
      · have h11 : σ 1 (σ 2 (σ 0 5).toNatClampNeg + nI k).toNatClampNeg = nI (List.getD [99, 97, 114, 116] (nI k).toNatClampNeg 0) := h11
        rw [e5, nI_clamp (by omega)] at h11
        refine hX _ _ _ _ _ _ _ ?_
        have h12 := ih (k + 1) (by omega) (by omega) ht (fun q hq => by
          by_cases e : q = k
          · rw [e]; exact h11
          · exact hall q (by omega))
        rw [← nI_1 k] at h12
        exact h12
      · have h11 : ¬ σ 1 (σ 2 (σ 0 5).toNatClampNeg + nI k).toNatClampNeg = nI (List.getD [99, 97, 114, 116] (nI k).toNatClampNeg 0) := h11
        rw [e5, nI_clamp (by omega)] at h11
        exact ⟨Or.inl rfl, q0 (fun z => h11 ((wB_iff.mp z).2 k h))⟩
  refine hX _ _ _ _ _ _ _ ?_
  refine ⟨vin a2 (by omega) (by omega), ?_⟩
  refine ⟨vin a2 (by omega) (by omega), ?_⟩
  refine b_eq (a := te t n b - b) (b := 4) (by rw [e2, e3, nI_sub a8]) rfl (by omega) (by omega) (fun h => ?_) (fun h => ?_)
  · refine hX _ _ _ _ _ _ _ ?_
    exact loop _ 0 rfl (by omega) (by omega) (fun q hq => by omega)
  · exact ⟨Or.inl rfl, q0 (fun z => by have z1 : te t n b = b + 4 := wB_te z (by decide); omega)⟩
theorem c_tw_20 (h : TK σ t n i) (q1 : wB t n (bg t n i) [104, 111, 108, 100] = true → ∀ σ', TK σ' t n (i + 1) → Q (.inl (some (.int (nI 1)))) sh_8 σ') (q0 : ¬ wB t n (bg t n i) [104, 111, 108, 100] = true → Q (.inl (some (.int (nI 0)))) sh_8 σ) : mD (d + 1) 340 [.ref 0, .ref 1020] sh_8 σ Q := by
  have hK := h
  obtain ⟨a1, a2, a3, a4, a5, a6, a7, a8⟩ := h.at0
  obtain ⟨h1, h2, h3, th, h4, h5, h6, h7, h8, h9, h10⟩ := h
  generalize hb : bg t n i = b at *
  refine ⟨rfl, fun X hX => ?_⟩
  have e2 : σ 2 (σ 0 5).toNatClampNeg = nI b := by rw [clN a2 (by omega)]; exact a3
  have e3 : σ 3 (σ 0 5).toNatClampNeg = nI (te t n b) := by rw [clN a2 (by omega)]; exact a4
  have loop : ∀ j k, 4 - k = j → k ≤ 4 → te t n b = b + 4 → (∀ q, q < k → t (b + q) = nI (List.getD [104, 111, 108, 100] q 0)) → X 32 [some (.ref 0), some (.ref 1020), some (.int (σ 2 (σ 0 5).toNatClampNeg)), some (.int (nI k))] [] sh_8 σ 0 0 := by
    intro j
    induction j with
    | zero =>
      intro k hj hk ht hall
      refine hX _ _ _ _ _ _ _ ?_
      refine b_ge (b := 4) rfl rfl (by omega) (by omega) (fun h => ?_) (fun h => by omega)
      have hlt : b < n := by omega
      have hL : kL (t b) = true := by
        have := hall 0 (by omega)
        rw [Nat.add_zero] at this
        rw [this]
        decide +kernel
      refine hX _ _ _ _ _ _ _ ?_
      refine ⟨Or.inr rfl, q1 (wB_iff.mpr ⟨?_, fun q hq => hall q (by have hq : q < 4 := hq; omega)⟩) _ ?_⟩
      · unfold te at ht
        rw [if_pos hlt, if_pos hL] at ht
        exact ht
      · exact hK.nxt (by rw [hb]; exact hlt) (by rw [a2]; exact nI_1 i)
    | succ j ih =>
      intro k hj hk ht hall
      have e4 : σ 2 (σ 0 5).toNatClampNeg + nI k = nI (b + k) := by rw [e2, nI_add]
      refine hX _ _ _ _ _ _ _ ?_
      refine b_ge (b := 4) rfl rfl (by omega) (by omega) (fun h => by omega) (fun h => ?_)
      refine ⟨vin e4 (by omega) (by omega), ?_⟩
      refine ⟨vp_in_nI (n := k) (N := 4) h (by omega), ?_⟩
      have e5 : σ 1 (σ 2 (σ 0 5).toNatClampNeg + nI k).toNatClampNeg = t (b + k) := by rw [clN e4 (by omega)]; exact h3 _ (by omega)
      refine ⟨fun h11 => ?_, fun h11 => ?_⟩
      · have h11 : σ 1 (σ 2 (σ 0 5).toNatClampNeg + nI k).toNatClampNeg = nI (List.getD [104, 111, 108, 100] (nI k).toNatClampNeg 0) := h11
        rw [e5, nI_clamp (by omega)] at h11
        refine hX _ _ _ _ _ _ _ ?_
        have h12 := ih (k + 1) (by omega) (by omega) ht (fun q hq => by
          by_cases e : q = k
          · rw [e]; exact h11
          · exact hall q (by omega))
        rw [← nI_1 k] at h12
        exact h12
      · have h11 : ¬ σ 1 (σ 2 (σ 0 5).toNatClampNeg + nI k).toNatClampNeg = nI (List.getD [104, 111, 108, 100] (nI k).toNatClampNeg 0) := h11
        rw [e5, nI_clamp (by omega)] at h11
        exact ⟨Or.inl rfl, q0 (fun z => h11 ((wB_iff.mp z).2 k h))⟩
  refine hX _ _ _ _ _ _ _ ?_
  refine ⟨vin a2 (by omega) (by omega), ?_⟩
  refine ⟨vin a2 (by omega) (by omega), ?_⟩
  refine b_eq (a := te t n b - b) (b := 4) (by rw [e2, e3, nI_sub a8]) rfl (by omega) (by omega) (fun h => ?_) (fun h => ?_)
  · refine hX _ _ _ _ _ _ _ ?_
    exact loop _ 0 rfl (by omega) (by omega) (fun q hq => by omega)
  · exact ⟨Or.inl rfl, q0 (fun z => by have z1 : te t n b = b + 4 := wB_te z (by decide); omega)⟩
theorem c_tw_21 (h : TK σ t n i) (q1 : wB t n (bg t n i) [103, 111, 101, 115] = true → ∀ σ', TK σ' t n (i + 1) → Q (.inl (some (.int (nI 1)))) sh_8 σ') (q0 : ¬ wB t n (bg t n i) [103, 111, 101, 115] = true → Q (.inl (some (.int (nI 0)))) sh_8 σ) : mD (d + 1) 340 [.ref 0, .ref 1021] sh_8 σ Q := by
  have hK := h
  obtain ⟨a1, a2, a3, a4, a5, a6, a7, a8⟩ := h.at0
  obtain ⟨h1, h2, h3, th, h4, h5, h6, h7, h8, h9, h10⟩ := h
  generalize hb : bg t n i = b at *
  refine ⟨rfl, fun X hX => ?_⟩
  have e2 : σ 2 (σ 0 5).toNatClampNeg = nI b := by rw [clN a2 (by omega)]; exact a3
  have e3 : σ 3 (σ 0 5).toNatClampNeg = nI (te t n b) := by rw [clN a2 (by omega)]; exact a4
  have loop : ∀ j k, 4 - k = j → k ≤ 4 → te t n b = b + 4 → (∀ q, q < k → t (b + q) = nI (List.getD [103, 111, 101, 115] q 0)) → X 32 [some (.ref 0), some (.ref 1021), some (.int (σ 2 (σ 0 5).toNatClampNeg)), some (.int (nI k))] [] sh_8 σ 0 0 := by
    intro j
    induction j with
    | zero =>
      intro k hj hk ht hall
      refine hX _ _ _ _ _ _ _ ?_
      refine b_ge (b := 4) rfl rfl (by omega) (by omega) (fun h => ?_) (fun h => by omega)
      have hlt : b < n := by omega
      have hL : kL (t b) = true := by
        have := hall 0 (by omega)
        rw [Nat.add_zero] at this
        rw [this]
        decide +kernel
      refine hX _ _ _ _ _ _ _ ?_
      refine ⟨Or.inr rfl, q1 (wB_iff.mpr ⟨?_, fun q hq => hall q (by have hq : q < 4 := hq; omega)⟩) _ ?_⟩
      · unfold te at ht
        rw [if_pos hlt, if_pos hL] at ht
        exact ht
      · exact hK.nxt (by rw [hb]; exact hlt) (by rw [a2]; exact nI_1 i)
    | succ j ih =>
      intro k hj hk ht hall
      have e4 : σ 2 (σ 0 5).toNatClampNeg + nI k = nI (b + k) := by rw [e2, nI_add]
      refine hX _ _ _ _ _ _ _ ?_
      refine b_ge (b := 4) rfl rfl (by omega) (by omega) (fun h => by omega) (fun h => ?_)
      refine ⟨vin e4 (by omega) (by omega), ?_⟩
      refine ⟨vp_in_nI (n := k) (N := 4) h (by omega), ?_⟩
      have e5 : σ 1 (σ 2 (σ 0 5).toNatClampNeg + nI k).toNatClampNeg = t (b + k) := by rw [clN e4 (by omega)]; exact h3 _ (by omega)
      refine ⟨fun h11 => ?_, fun h11 => ?_⟩
      · have h11 : σ 1 (σ 2 (σ 0 5).toNatClampNeg + nI k).toNatClampNeg = nI (List.getD [103, 111, 101, 115] (nI k).toNatClampNeg 0) := h11
        rw [e5, nI_clamp (by omega)] at h11
        refine hX _ _ _ _ _ _ _ ?_
        have h12 := ih (k + 1) (by omega) (by omega) ht (fun q hq => by
          by_cases e : q = k
          · rw [e]; exact h11
          · exact hall q (by omega))
        rw [← nI_1 k] at h12
        exact h12
      · have h11 : ¬ σ 1 (σ 2 (σ 0 5).toNatClampNeg + nI k).toNatClampNeg = nI (List.getD [103, 111, 101, 115] (nI k).toNatClampNeg 0) := h11
        rw [e5, nI_clamp (by omega)] at h11
        exact ⟨Or.inl rfl, q0 (fun z => h11 ((wB_iff.mp z).2 k h))⟩
  refine hX _ _ _ _ _ _ _ ?_
  refine ⟨vin a2 (by omega) (by omega), ?_⟩
  refine ⟨vin a2 (by omega) (by omega), ?_⟩
  refine b_eq (a := te t n b - b) (b := 4) (by rw [e2, e3, nI_sub a8]) rfl (by omega) (by omega) (fun h => ?_) (fun h => ?_)
  · refine hX _ _ _ _ _ _ _ ?_
    exact loop _ 0 rfl (by omega) (by omega) (fun q hq => by omega)
  · exact ⟨Or.inl rfl, q0 (fun z => by have z1 : te t n b = b + 4 := wB_te z (by decide); omega)⟩
theorem c_tw_22 (h : TK σ t n i) (q1 : wB t n (bg t n i) [115, 105, 101, 118, 101] = true → ∀ σ', TK σ' t n (i + 1) → Q (.inl (some (.int (nI 1)))) sh_8 σ') (q0 : ¬ wB t n (bg t n i) [115, 105, 101, 118, 101] = true → Q (.inl (some (.int (nI 0)))) sh_8 σ) : mD (d + 1) 340 [.ref 0, .ref 1022] sh_8 σ Q := by
  have hK := h
  obtain ⟨a1, a2, a3, a4, a5, a6, a7, a8⟩ := h.at0
  obtain ⟨h1, h2, h3, th, h4, h5, h6, h7, h8, h9, h10⟩ := h
  generalize hb : bg t n i = b at *
  refine ⟨rfl, fun X hX => ?_⟩
  have e2 : σ 2 (σ 0 5).toNatClampNeg = nI b := by rw [clN a2 (by omega)]; exact a3
  have e3 : σ 3 (σ 0 5).toNatClampNeg = nI (te t n b) := by rw [clN a2 (by omega)]; exact a4
  have loop : ∀ j k, 5 - k = j → k ≤ 5 → te t n b = b + 5 → (∀ q, q < k → t (b + q) = nI (List.getD [115, 105, 101, 118, 101] q 0)) → X 32 [some (.ref 0), some (.ref 1022), some (.int (σ 2 (σ 0 5).toNatClampNeg)), some (.int (nI k))] [] sh_8 σ 0 0 := by
    intro j
    induction j with
    | zero =>
      intro k hj hk ht hall
      refine hX _ _ _ _ _ _ _ ?_
      refine b_ge (b := 5) rfl rfl (by omega) (by omega) (fun h => ?_) (fun h => by omega)
      have hlt : b < n := by omega
      have hL : kL (t b) = true := by
        have := hall 0 (by omega)
        rw [Nat.add_zero] at this
        rw [this]
        decide +kernel
      refine hX _ _ _ _ _ _ _ ?_
      refine ⟨Or.inr rfl, q1 (wB_iff.mpr ⟨?_, fun q hq => hall q (by have hq : q < 5 := hq; omega)⟩) _ ?_⟩
      · unfold te at ht
        rw [if_pos hlt, if_pos hL] at ht
        exact ht
      · exact hK.nxt (by rw [hb]; exact hlt) (by rw [a2]; exact nI_1 i)
    | succ j ih =>
      intro k hj hk ht hall
      have e4 : σ 2 (σ 0 5).toNatClampNeg + nI k = nI (b + k) := by rw [e2, nI_add]
      refine hX _ _ _ _ _ _ _ ?_
      refine b_ge (b := 5) rfl rfl (by omega) (by omega) (fun h => by omega) (fun h => ?_)
      refine ⟨vin e4 (by omega) (by omega), ?_⟩
      refine ⟨vp_in_nI (n := k) (N := 5) h (by omega), ?_⟩
      have e5 : σ 1 (σ 2 (σ 0 5).toNatClampNeg + nI k).toNatClampNeg = t (b + k) := by rw [clN e4 (by omega)]; exact h3 _ (by omega)
      refine ⟨fun h11 => ?_, fun h11 => ?_⟩
      · have h11 : σ 1 (σ 2 (σ 0 5).toNatClampNeg + nI k).toNatClampNeg = nI (List.getD [115, 105, 101, 118, 101] (nI k).toNatClampNeg 0) := h11
        rw [e5, nI_clamp (by omega)] at h11
        refine hX _ _ _ _ _ _ _ ?_
        have h12 := ih (k + 1) (by omega) (by omega) ht (fun q hq => by
          by_cases e : q = k
          · rw [e]; exact h11
          · exact hall q (by omega))
        rw [← nI_1 k] at h12
        exact h12
      · have h11 : ¬ σ 1 (σ 2 (σ 0 5).toNatClampNeg + nI k).toNatClampNeg = nI (List.getD [115, 105, 101, 118, 101] (nI k).toNatClampNeg 0) := h11
        rw [e5, nI_clamp (by omega)] at h11
        exact ⟨Or.inl rfl, q0 (fun z => h11 ((wB_iff.mp z).2 k h))⟩
  refine hX _ _ _ _ _ _ _ ?_
  refine ⟨vin a2 (by omega) (by omega), ?_⟩
  refine ⟨vin a2 (by omega) (by omega), ?_⟩
  refine b_eq (a := te t n b - b) (b := 5) (by rw [e2, e3, nI_sub a8]) rfl (by omega) (by omega) (fun h => ?_) (fun h => ?_)
  · refine hX _ _ _ _ _ _ _ ?_
    exact loop _ 0 rfl (by omega) (by omega) (fun q hq => by omega)
  · exact ⟨Or.inl rfl, q0 (fun z => by have z1 : te t n b = b + 5 := wB_te z (by decide); omega)⟩
theorem c_tw_23 (h : TK σ t n i) (q1 : wB t n (bg t n i) [99, 111, 110, 116, 114, 97, 99, 116] = true → ∀ σ', TK σ' t n (i + 1) → Q (.inl (some (.int (nI 1)))) sh_8 σ') (q0 : ¬ wB t n (bg t n i) [99, 111, 110, 116, 114, 97, 99, 116] = true → Q (.inl (some (.int (nI 0)))) sh_8 σ) : mD (d + 1) 340 [.ref 0, .ref 1023] sh_8 σ Q := by
  have hK := h
  obtain ⟨a1, a2, a3, a4, a5, a6, a7, a8⟩ := h.at0
  obtain ⟨h1, h2, h3, th, h4, h5, h6, h7, h8, h9, h10⟩ := h
  generalize hb : bg t n i = b at *
  refine ⟨rfl, fun X hX => ?_⟩
  have e2 : σ 2 (σ 0 5).toNatClampNeg = nI b := by rw [clN a2 (by omega)]; exact a3
  have e3 : σ 3 (σ 0 5).toNatClampNeg = nI (te t n b) := by rw [clN a2 (by omega)]; exact a4
  have loop : ∀ j k, 8 - k = j → k ≤ 8 → te t n b = b + 8 → (∀ q, q < k → t (b + q) = nI (List.getD [99, 111, 110, 116, 114, 97, 99, 116] q 0)) → X 32 [some (.ref 0), some (.ref 1023), some (.int (σ 2 (σ 0 5).toNatClampNeg)), some (.int (nI k))] [] sh_8 σ 0 0 := by
    intro j
    induction j with
    | zero =>
      intro k hj hk ht hall
      refine hX _ _ _ _ _ _ _ ?_
      refine b_ge (b := 8) rfl rfl (by omega) (by omega) (fun h => ?_) (fun h => by omega)
      have hlt : b < n := by omega
      have hL : kL (t b) = true := by
        have := hall 0 (by omega)
        rw [Nat.add_zero] at this
        rw [this]
        decide +kernel
      refine hX _ _ _ _ _ _ _ ?_
      refine ⟨Or.inr rfl, q1 (wB_iff.mpr ⟨?_, fun q hq => hall q (by have hq : q < 8 := hq; omega)⟩) _ ?_⟩
      · unfold te at ht
        rw [if_pos hlt, if_pos hL] at ht
        exact ht
      · exact hK.nxt (by rw [hb]; exact hlt) (by rw [a2]; exact nI_1 i)
    | succ j ih =>
      intro k hj hk ht hall
      have e4 : σ 2 (σ 0 5).toNatClampNeg + nI k = nI (b + k) := by rw [e2, nI_add]
      refine hX _ _ _ _ _ _ _ ?_
      refine b_ge (b := 8) rfl rfl (by omega) (by omega) (fun h => by omega) (fun h => ?_)
      refine ⟨vin e4 (by omega) (by omega), ?_⟩
      refine ⟨vp_in_nI (n := k) (N := 8) h (by omega), ?_⟩
      have e5 : σ 1 (σ 2 (σ 0 5).toNatClampNeg + nI k).toNatClampNeg = t (b + k) := by rw [clN e4 (by omega)]; exact h3 _ (by omega)
      refine ⟨fun h11 => ?_, fun h11 => ?_⟩
      · have h11 : σ 1 (σ 2 (σ 0 5).toNatClampNeg + nI k).toNatClampNeg = nI (List.getD [99, 111, 110, 116, 114, 97, 99, 116] (nI k).toNatClampNeg 0) := h11
        rw [e5, nI_clamp (by omega)] at h11
        refine hX _ _ _ _ _ _ _ ?_
        have h12 := ih (k + 1) (by omega) (by omega) ht (fun q hq => by
          by_cases e : q = k
          · rw [e]; exact h11
          · exact hall q (by omega))
        rw [← nI_1 k] at h12
        exact h12
      · have h11 : ¬ σ 1 (σ 2 (σ 0 5).toNatClampNeg + nI k).toNatClampNeg = nI (List.getD [99, 111, 110, 116, 114, 97, 99, 116] (nI k).toNatClampNeg 0) := h11
        rw [e5, nI_clamp (by omega)] at h11
        exact ⟨Or.inl rfl, q0 (fun z => h11 ((wB_iff.mp z).2 k h))⟩
  refine hX _ _ _ _ _ _ _ ?_
  refine ⟨vin a2 (by omega) (by omega), ?_⟩
  refine ⟨vin a2 (by omega) (by omega), ?_⟩
  refine b_eq (a := te t n b - b) (b := 8) (by rw [e2, e3, nI_sub a8]) rfl (by omega) (by omega) (fun h => ?_) (fun h => ?_)
  · refine hX _ _ _ _ _ _ _ ?_
    exact loop _ 0 rfl (by omega) (by omega) (fun q hq => by omega)
  · exact ⟨Or.inl rfl, q0 (fun z => by have z1 : te t n b = b + 8 := wB_te z (by decide); omega)⟩
theorem c_tw_24 (h : TK σ t n i) (q1 : wB t n (bg t n i) [116, 111] = true → ∀ σ', TK σ' t n (i + 1) → Q (.inl (some (.int (nI 1)))) sh_8 σ') (q0 : ¬ wB t n (bg t n i) [116, 111] = true → Q (.inl (some (.int (nI 0)))) sh_8 σ) : mD (d + 1) 340 [.ref 0, .ref 1024] sh_8 σ Q := by
  have hK := h
  obtain ⟨a1, a2, a3, a4, a5, a6, a7, a8⟩ := h.at0
  obtain ⟨h1, h2, h3, th, h4, h5, h6, h7, h8, h9, h10⟩ := h
  generalize hb : bg t n i = b at *
  refine ⟨rfl, fun X hX => ?_⟩
  have e2 : σ 2 (σ 0 5).toNatClampNeg = nI b := by rw [clN a2 (by omega)]; exact a3
  have e3 : σ 3 (σ 0 5).toNatClampNeg = nI (te t n b) := by rw [clN a2 (by omega)]; exact a4
  have loop : ∀ j k, 2 - k = j → k ≤ 2 → te t n b = b + 2 → (∀ q, q < k → t (b + q) = nI (List.getD [116, 111] q 0)) → X 32 [some (.ref 0), some (.ref 1024), some (.int (σ 2 (σ 0 5).toNatClampNeg)), some (.int (nI k))] [] sh_8 σ 0 0 := by
    intro j
    induction j with
    | zero =>
      intro k hj hk ht hall
      refine hX _ _ _ _ _ _ _ ?_
      refine b_ge (b := 2) rfl rfl (by omega) (by omega) (fun h => ?_) (fun h => by omega)
      have hlt : b < n := by omega
      have hL : kL (t b) = true := by
        have := hall 0 (by omega)
        rw [Nat.add_zero] at this
        rw [this]
        decide +kernel
      refine hX _ _ _ _ _ _ _ ?_
      refine ⟨Or.inr rfl, q1 (wB_iff.mpr ⟨?_, fun q hq => hall q (by have hq : q < 2 := hq; omega)⟩) _ ?_⟩
      · unfold te at ht
        rw [if_pos hlt, if_pos hL] at ht
        exact ht
      · exact hK.nxt (by rw [hb]; exact hlt) (by rw [a2]; exact nI_1 i)
    | succ j ih =>
      intro k hj hk ht hall
      have e4 : σ 2 (σ 0 5).toNatClampNeg + nI k = nI (b + k) := by rw [e2, nI_add]
      refine hX _ _ _ _ _ _ _ ?_
      refine b_ge (b := 2) rfl rfl (by omega) (by omega) (fun h => by omega) (fun h => ?_)
      refine ⟨vin e4 (by omega) (by omega), ?_⟩
      refine ⟨vp_in_nI (n := k) (N := 2) h (by omega), ?_⟩
      have e5 : σ 1 (σ 2 (σ 0 5).toNatClampNeg + nI k).toNatClampNeg = t (b + k) := by rw [clN e4 (by omega)]; exact h3 _ (by omega)
      refine ⟨fun h11 => ?_, fun h11 => ?_⟩
      · have h11 : σ 1 (σ 2 (σ 0 5).toNatClampNeg + nI k).toNatClampNeg = nI (List.getD [116, 111] (nI k).toNatClampNeg 0) := h11
        rw [e5, nI_clamp (by omega)] at h11
        refine hX _ _ _ _ _ _ _ ?_
        have h12 := ih (k + 1) (by omega) (by omega) ht (fun q hq => by
          by_cases e : q = k
          · rw [e]; exact h11
          · exact hall q (by omega))
        rw [← nI_1 k] at h12
        exact h12
      · have h11 : ¬ σ 1 (σ 2 (σ 0 5).toNatClampNeg + nI k).toNatClampNeg = nI (List.getD [116, 111] (nI k).toNatClampNeg 0) := h11
        rw [e5, nI_clamp (by omega)] at h11
        exact ⟨Or.inl rfl, q0 (fun z => h11 ((wB_iff.mp z).2 k h))⟩
  refine hX _ _ _ _ _ _ _ ?_
  refine ⟨vin a2 (by omega) (by omega), ?_⟩
  refine ⟨vin a2 (by omega) (by omega), ?_⟩
  refine b_eq (a := te t n b - b) (b := 2) (by rw [e2, e3, nI_sub a8]) rfl (by omega) (by omega) (fun h => ?_) (fun h => ?_)
  · refine hX _ _ _ _ _ _ _ ?_
    exact loop _ 0 rfl (by omega) (by omega) (fun q hq => by omega)
  · exact ⟨Or.inl rfl, q0 (fun z => by have z1 : te t n b = b + 2 := wB_te z (by decide); omega)⟩
theorem c_tw_25 (h : TK σ t n i) (q1 : wB t n (bg t n i) [109, 97, 110, 121] = true → ∀ σ', TK σ' t n (i + 1) → Q (.inl (some (.int (nI 1)))) sh_8 σ') (q0 : ¬ wB t n (bg t n i) [109, 97, 110, 121] = true → Q (.inl (some (.int (nI 0)))) sh_8 σ) : mD (d + 1) 340 [.ref 0, .ref 1025] sh_8 σ Q := by
  have hK := h
  obtain ⟨a1, a2, a3, a4, a5, a6, a7, a8⟩ := h.at0
  obtain ⟨h1, h2, h3, th, h4, h5, h6, h7, h8, h9, h10⟩ := h
  generalize hb : bg t n i = b at *
  refine ⟨rfl, fun X hX => ?_⟩
  have e2 : σ 2 (σ 0 5).toNatClampNeg = nI b := by rw [clN a2 (by omega)]; exact a3
  have e3 : σ 3 (σ 0 5).toNatClampNeg = nI (te t n b) := by rw [clN a2 (by omega)]; exact a4
  have loop : ∀ j k, 4 - k = j → k ≤ 4 → te t n b = b + 4 → (∀ q, q < k → t (b + q) = nI (List.getD [109, 97, 110, 121] q 0)) → X 32 [some (.ref 0), some (.ref 1025), some (.int (σ 2 (σ 0 5).toNatClampNeg)), some (.int (nI k))] [] sh_8 σ 0 0 := by
    intro j
    induction j with
    | zero =>
      intro k hj hk ht hall
      refine hX _ _ _ _ _ _ _ ?_
      refine b_ge (b := 4) rfl rfl (by omega) (by omega) (fun h => ?_) (fun h => by omega)
      have hlt : b < n := by omega
      have hL : kL (t b) = true := by
        have := hall 0 (by omega)
        rw [Nat.add_zero] at this
        rw [this]
        decide +kernel
      refine hX _ _ _ _ _ _ _ ?_
      refine ⟨Or.inr rfl, q1 (wB_iff.mpr ⟨?_, fun q hq => hall q (by have hq : q < 4 := hq; omega)⟩) _ ?_⟩
      · unfold te at ht
        rw [if_pos hlt, if_pos hL] at ht
        exact ht
      · exact hK.nxt (by rw [hb]; exact hlt) (by rw [a2]; exact nI_1 i)
    | succ j ih =>
      intro k hj hk ht hall
      have e4 : σ 2 (σ 0 5).toNatClampNeg + nI k = nI (b + k) := by rw [e2, nI_add]
      refine hX _ _ _ _ _ _ _ ?_
      refine b_ge (b := 4) rfl rfl (by omega) (by omega) (fun h => by omega) (fun h => ?_)
      refine ⟨vin e4 (by omega) (by omega), ?_⟩
      refine ⟨vp_in_nI (n := k) (N := 4) h (by omega), ?_⟩
      have e5 : σ 1 (σ 2 (σ 0 5).toNatClampNeg + nI k).toNatClampNeg = t (b + k) := by rw [clN e4 (by omega)]; exact h3 _ (by omega)
      refine ⟨fun h11 => ?_, fun h11 => ?_⟩
      · have h11 : σ 1 (σ 2 (σ 0 5).toNatClampNeg + nI k).toNatClampNeg = nI (List.getD [109, 97, 110, 121] (nI k).toNatClampNeg 0) := h11
        rw [e5, nI_clamp (by omega)] at h11
        refine hX _ _ _ _ _ _ _ ?_
        have h12 := ih (k + 1) (by omega) (by omega) ht (fun q hq => by
          by_cases e : q = k
          · rw [e]; exact h11
          · exact hall q (by omega))
        rw [← nI_1 k] at h12
        exact h12
      · have h11 : ¬ σ 1 (σ 2 (σ 0 5).toNatClampNeg + nI k).toNatClampNeg = nI (List.getD [109, 97, 110, 121] (nI k).toNatClampNeg 0) := h11
        rw [e5, nI_clamp (by omega)] at h11
        exact ⟨Or.inl rfl, q0 (fun z => h11 ((wB_iff.mp z).2 k h))⟩
  refine hX _ _ _ _ _ _ _ ?_
  refine ⟨vin a2 (by omega) (by omega), ?_⟩
  refine ⟨vin a2 (by omega) (by omega), ?_⟩
  refine b_eq (a := te t n b - b) (b := 4) (by rw [e2, e3, nI_sub a8]) rfl (by omega) (by omega) (fun h => ?_) (fun h => ?_)
  · refine hX _ _ _ _ _ _ _ ?_
    exact loop _ 0 rfl (by omega) (by omega) (fun q hq => by omega)
  · exact ⟨Or.inl rfl, q0 (fun z => by have z1 : te t n b = b + 4 := wB_te z (by decide); omega)⟩
theorem c_tw_26 (h : TK σ t n i) (q1 : wB t n (bg t n i) [112, 97, 121, 115] = true → ∀ σ', TK σ' t n (i + 1) → Q (.inl (some (.int (nI 1)))) sh_8 σ') (q0 : ¬ wB t n (bg t n i) [112, 97, 121, 115] = true → Q (.inl (some (.int (nI 0)))) sh_8 σ) : mD (d + 1) 340 [.ref 0, .ref 1026] sh_8 σ Q := by
  have hK := h
  obtain ⟨a1, a2, a3, a4, a5, a6, a7, a8⟩ := h.at0
  obtain ⟨h1, h2, h3, th, h4, h5, h6, h7, h8, h9, h10⟩ := h
  generalize hb : bg t n i = b at *
  refine ⟨rfl, fun X hX => ?_⟩
  have e2 : σ 2 (σ 0 5).toNatClampNeg = nI b := by rw [clN a2 (by omega)]; exact a3
  have e3 : σ 3 (σ 0 5).toNatClampNeg = nI (te t n b) := by rw [clN a2 (by omega)]; exact a4
  have loop : ∀ j k, 4 - k = j → k ≤ 4 → te t n b = b + 4 → (∀ q, q < k → t (b + q) = nI (List.getD [112, 97, 121, 115] q 0)) → X 32 [some (.ref 0), some (.ref 1026), some (.int (σ 2 (σ 0 5).toNatClampNeg)), some (.int (nI k))] [] sh_8 σ 0 0 := by
    intro j
    induction j with
    | zero =>
      intro k hj hk ht hall
      refine hX _ _ _ _ _ _ _ ?_
      refine b_ge (b := 4) rfl rfl (by omega) (by omega) (fun h => ?_) (fun h => by omega)
      have hlt : b < n := by omega
      have hL : kL (t b) = true := by
        have := hall 0 (by omega)
        rw [Nat.add_zero] at this
        rw [this]
        decide +kernel
      refine hX _ _ _ _ _ _ _ ?_
      refine ⟨Or.inr rfl, q1 (wB_iff.mpr ⟨?_, fun q hq => hall q (by have hq : q < 4 := hq; omega)⟩) _ ?_⟩
      · unfold te at ht
        rw [if_pos hlt, if_pos hL] at ht
        exact ht
      · exact hK.nxt (by rw [hb]; exact hlt) (by rw [a2]; exact nI_1 i)
    | succ j ih =>
      intro k hj hk ht hall
      have e4 : σ 2 (σ 0 5).toNatClampNeg + nI k = nI (b + k) := by rw [e2, nI_add]
      refine hX _ _ _ _ _ _ _ ?_
      refine b_ge (b := 4) rfl rfl (by omega) (by omega) (fun h => by omega) (fun h => ?_)
      refine ⟨vin e4 (by omega) (by omega), ?_⟩
      refine ⟨vp_in_nI (n := k) (N := 4) h (by omega), ?_⟩
      have e5 : σ 1 (σ 2 (σ 0 5).toNatClampNeg + nI k).toNatClampNeg = t (b + k) := by rw [clN e4 (by omega)]; exact h3 _ (by omega)
      refine ⟨fun h11 => ?_, fun h11 => ?_⟩
      · have h11 : σ 1 (σ 2 (σ 0 5).toNatClampNeg + nI k).toNatClampNeg = nI (List.getD [112, 97, 121, 115] (nI k).toNatClampNeg 0) := h11
        rw [e5, nI_clamp (by omega)] at h11
        refine hX _ _ _ _ _ _ _ ?_
        have h12 := ih (k + 1) (by omega) (by omega) ht (fun q hq => by
          by_cases e : q = k
          · rw [e]; exact h11
          · exact hall q (by omega))
        rw [← nI_1 k] at h12
        exact h12
      · have h11 : ¬ σ 1 (σ 2 (σ 0 5).toNatClampNeg + nI k).toNatClampNeg = nI (List.getD [112, 97, 121, 115] (nI k).toNatClampNeg 0) := h11
        rw [e5, nI_clamp (by omega)] at h11
        exact ⟨Or.inl rfl, q0 (fun z => h11 ((wB_iff.mp z).2 k h))⟩
  refine hX _ _ _ _ _ _ _ ?_
  refine ⟨vin a2 (by omega) (by omega), ?_⟩
  refine ⟨vin a2 (by omega) (by omega), ?_⟩
  refine b_eq (a := te t n b - b) (b := 4) (by rw [e2, e3, nI_sub a8]) rfl (by omega) (by omega) (fun h => ?_) (fun h => ?_)
  · refine hX _ _ _ _ _ _ _ ?_
    exact loop _ 0 rfl (by omega) (by omega) (fun q hq => by omega)
  · exact ⟨Or.inl rfl, q0 (fun z => by have z1 : te t n b = b + 4 := wB_te z (by decide); omega)⟩
theorem c_tw_27 (h : TK σ t n i) (q1 : wB t n (bg t n i) [104, 101, 97, 112] = true → ∀ σ', TK σ' t n (i + 1) → Q (.inl (some (.int (nI 1)))) sh_8 σ') (q0 : ¬ wB t n (bg t n i) [104, 101, 97, 112] = true → Q (.inl (some (.int (nI 0)))) sh_8 σ) : mD (d + 1) 340 [.ref 0, .ref 1027] sh_8 σ Q := by
  have hK := h
  obtain ⟨a1, a2, a3, a4, a5, a6, a7, a8⟩ := h.at0
  obtain ⟨h1, h2, h3, th, h4, h5, h6, h7, h8, h9, h10⟩ := h
  generalize hb : bg t n i = b at *
  refine ⟨rfl, fun X hX => ?_⟩
  have e2 : σ 2 (σ 0 5).toNatClampNeg = nI b := by rw [clN a2 (by omega)]; exact a3
  have e3 : σ 3 (σ 0 5).toNatClampNeg = nI (te t n b) := by rw [clN a2 (by omega)]; exact a4
  have loop : ∀ j k, 4 - k = j → k ≤ 4 → te t n b = b + 4 → (∀ q, q < k → t (b + q) = nI (List.getD [104, 101, 97, 112] q 0)) → X 32 [some (.ref 0), some (.ref 1027), some (.int (σ 2 (σ 0 5).toNatClampNeg)), some (.int (nI k))] [] sh_8 σ 0 0 := by
    intro j
    induction j with
    | zero =>
      intro k hj hk ht hall
      refine hX _ _ _ _ _ _ _ ?_
      refine b_ge (b := 4) rfl rfl (by omega) (by omega) (fun h => ?_) (fun h => by omega)
      have hlt : b < n := by omega
      have hL : kL (t b) = true := by
        have := hall 0 (by omega)
        rw [Nat.add_zero] at this
        rw [this]
        decide +kernel
      refine hX _ _ _ _ _ _ _ ?_
      refine ⟨Or.inr rfl, q1 (wB_iff.mpr ⟨?_, fun q hq => hall q (by have hq : q < 4 := hq; omega)⟩) _ ?_⟩
      · unfold te at ht
        rw [if_pos hlt, if_pos hL] at ht
        exact ht
      · exact hK.nxt (by rw [hb]; exact hlt) (by rw [a2]; exact nI_1 i)
    | succ j ih =>
      intro k hj hk ht hall
      have e4 : σ 2 (σ 0 5).toNatClampNeg + nI k = nI (b + k) := by rw [e2, nI_add]
      refine hX _ _ _ _ _ _ _ ?_
      refine b_ge (b := 4) rfl rfl (by omega) (by omega) (fun h => by omega) (fun h => ?_)
      refine ⟨vin e4 (by omega) (by omega), ?_⟩
      refine ⟨vp_in_nI (n := k) (N := 4) h (by omega), ?_⟩
      have e5 : σ 1 (σ 2 (σ 0 5).toNatClampNeg + nI k).toNatClampNeg = t (b + k) := by rw [clN e4 (by omega)]; exact h3 _ (by omega)
      refine ⟨fun h11 => ?_, fun h11 => ?_⟩
      · have h11 : σ 1 (σ 2 (σ 0 5).toNatClampNeg + nI k).toNatClampNeg = nI (List.getD [104, 101, 97, 112] (nI k).toNatClampNeg 0) := h11
        rw [e5, nI_clamp (by omega)] at h11
        refine hX _ _ _ _ _ _ _ ?_
        have h12 := ih (k + 1) (by omega) (by omega) ht (fun q hq => by
          by_cases e : q = k
          · rw [e]; exact h11
          · exact hall q (by omega))
        rw [← nI_1 k] at h12
        exact h12
      · have h11 : ¬ σ 1 (σ 2 (σ 0 5).toNatClampNeg + nI k).toNatClampNeg = nI (List.getD [104, 101, 97, 112] (nI k).toNatClampNeg 0) := h11
        rw [e5, nI_clamp (by omega)] at h11
        exact ⟨Or.inl rfl, q0 (fun z => h11 ((wB_iff.mp z).2 k h))⟩
  refine hX _ _ _ _ _ _ _ ?_
  refine ⟨vin a2 (by omega) (by omega), ?_⟩
  refine ⟨vin a2 (by omega) (by omega), ?_⟩
  refine b_eq (a := te t n b - b) (b := 4) (by rw [e2, e3, nI_sub a8]) rfl (by omega) (by omega) (fun h => ?_) (fun h => ?_)
  · refine hX _ _ _ _ _ _ _ ?_
    exact loop _ 0 rfl (by omega) (by omega) (fun q hq => by omega)
  · exact ⟨Or.inl rfl, q0 (fun z => by have z1 : te t n b = b + 4 := wB_te z (by decide); omega)⟩
theorem c_tw_28 (h : TK σ t n i) (q1 : wB t n (bg t n i) [102, 105, 114, 101] = true → ∀ σ', TK σ' t n (i + 1) → Q (.inl (some (.int (nI 1)))) sh_8 σ') (q0 : ¬ wB t n (bg t n i) [102, 105, 114, 101] = true → Q (.inl (some (.int (nI 0)))) sh_8 σ) : mD (d + 1) 340 [.ref 0, .ref 1028] sh_8 σ Q := by
  have hK := h
  obtain ⟨a1, a2, a3, a4, a5, a6, a7, a8⟩ := h.at0
  obtain ⟨h1, h2, h3, th, h4, h5, h6, h7, h8, h9, h10⟩ := h
  generalize hb : bg t n i = b at *
  refine ⟨rfl, fun X hX => ?_⟩
  have e2 : σ 2 (σ 0 5).toNatClampNeg = nI b := by rw [clN a2 (by omega)]; exact a3
  have e3 : σ 3 (σ 0 5).toNatClampNeg = nI (te t n b) := by rw [clN a2 (by omega)]; exact a4
  have loop : ∀ j k, 4 - k = j → k ≤ 4 → te t n b = b + 4 → (∀ q, q < k → t (b + q) = nI (List.getD [102, 105, 114, 101] q 0)) → X 32 [some (.ref 0), some (.ref 1028), some (.int (σ 2 (σ 0 5).toNatClampNeg)), some (.int (nI k))] [] sh_8 σ 0 0 := by
    intro j
    induction j with
    | zero =>
      intro k hj hk ht hall
      refine hX _ _ _ _ _ _ _ ?_
      refine b_ge (b := 4) rfl rfl (by omega) (by omega) (fun h => ?_) (fun h => by omega)
      have hlt : b < n := by omega
      have hL : kL (t b) = true := by
        have := hall 0 (by omega)
        rw [Nat.add_zero] at this
        rw [this]
        decide +kernel
      refine hX _ _ _ _ _ _ _ ?_
      refine ⟨Or.inr rfl, q1 (wB_iff.mpr ⟨?_, fun q hq => hall q (by have hq : q < 4 := hq; omega)⟩) _ ?_⟩
      · unfold te at ht
        rw [if_pos hlt, if_pos hL] at ht
        exact ht
      · exact hK.nxt (by rw [hb]; exact hlt) (by rw [a2]; exact nI_1 i)
    | succ j ih =>
      intro k hj hk ht hall
      have e4 : σ 2 (σ 0 5).toNatClampNeg + nI k = nI (b + k) := by rw [e2, nI_add]
      refine hX _ _ _ _ _ _ _ ?_
      refine b_ge (b := 4) rfl rfl (by omega) (by omega) (fun h => by omega) (fun h => ?_)
      refine ⟨vin e4 (by omega) (by omega), ?_⟩
      refine ⟨vp_in_nI (n := k) (N := 4) h (by omega), ?_⟩
      have e5 : σ 1 (σ 2 (σ 0 5).toNatClampNeg + nI k).toNatClampNeg = t (b + k) := by rw [clN e4 (by omega)]; exact h3 _ (by omega)
      refine ⟨fun h11 => ?_, fun h11 => ?_⟩
      · have h11 : σ 1 (σ 2 (σ 0 5).toNatClampNeg + nI k).toNatClampNeg = nI (List.getD [102, 105, 114, 101] (nI k).toNatClampNeg 0) := h11
        rw [e5, nI_clamp (by omega)] at h11
        refine hX _ _ _ _ _ _ _ ?_
        have h12 := ih (k + 1) (by omega) (by omega) ht (fun q hq => by
          by_cases e : q = k
          · rw [e]; exact h11
          · exact hall q (by omega))
        rw [← nI_1 k] at h12
        exact h12
      · have h11 : ¬ σ 1 (σ 2 (σ 0 5).toNatClampNeg + nI k).toNatClampNeg = nI (List.getD [102, 105, 114, 101] (nI k).toNatClampNeg 0) := h11
        rw [e5, nI_clamp (by omega)] at h11
        exact ⟨Or.inl rfl, q0 (fun z => h11 ((wB_iff.mp z).2 k h))⟩
  refine hX _ _ _ _ _ _ _ ?_
  refine ⟨vin a2 (by omega) (by omega), ?_⟩
  refine ⟨vin a2 (by omega) (by omega), ?_⟩
  refine b_eq (a := te t n b - b) (b := 4) (by rw [e2, e3, nI_sub a8]) rfl (by omega) (by omega) (fun h => ?_) (fun h => ?_)
  · refine hX _ _ _ _ _ _ _ ?_
    exact loop _ 0 rfl (by omega) (by omega) (fun q hq => by omega)
  · exact ⟨Or.inl rfl, q0 (fun z => by have z1 : te t n b = b + 4 := wB_te z (by decide); omega)⟩
theorem c_tw_29 (h : TK σ t n i) (q1 : wB t n (bg t n i) [114, 97, 116, 115] = true → ∀ σ', TK σ' t n (i + 1) → Q (.inl (some (.int (nI 1)))) sh_8 σ') (q0 : ¬ wB t n (bg t n i) [114, 97, 116, 115] = true → Q (.inl (some (.int (nI 0)))) sh_8 σ) : mD (d + 1) 340 [.ref 0, .ref 1029] sh_8 σ Q := by
  have hK := h
  obtain ⟨a1, a2, a3, a4, a5, a6, a7, a8⟩ := h.at0
  obtain ⟨h1, h2, h3, th, h4, h5, h6, h7, h8, h9, h10⟩ := h
  generalize hb : bg t n i = b at *
  refine ⟨rfl, fun X hX => ?_⟩
  have e2 : σ 2 (σ 0 5).toNatClampNeg = nI b := by rw [clN a2 (by omega)]; exact a3
  have e3 : σ 3 (σ 0 5).toNatClampNeg = nI (te t n b) := by rw [clN a2 (by omega)]; exact a4
  have loop : ∀ j k, 4 - k = j → k ≤ 4 → te t n b = b + 4 → (∀ q, q < k → t (b + q) = nI (List.getD [114, 97, 116, 115] q 0)) → X 32 [some (.ref 0), some (.ref 1029), some (.int (σ 2 (σ 0 5).toNatClampNeg)), some (.int (nI k))] [] sh_8 σ 0 0 := by
    intro j
    induction j with
    | zero =>
      intro k hj hk ht hall
      refine hX _ _ _ _ _ _ _ ?_
      refine b_ge (b := 4) rfl rfl (by omega) (by omega) (fun h => ?_) (fun h => by omega)
      have hlt : b < n := by omega
      have hL : kL (t b) = true := by
        have := hall 0 (by omega)
        rw [Nat.add_zero] at this
        rw [this]
        decide +kernel
      refine hX _ _ _ _ _ _ _ ?_
      refine ⟨Or.inr rfl, q1 (wB_iff.mpr ⟨?_, fun q hq => hall q (by have hq : q < 4 := hq; omega)⟩) _ ?_⟩
      · unfold te at ht
        rw [if_pos hlt, if_pos hL] at ht
        exact ht
      · exact hK.nxt (by rw [hb]; exact hlt) (by rw [a2]; exact nI_1 i)
    | succ j ih =>
      intro k hj hk ht hall
      have e4 : σ 2 (σ 0 5).toNatClampNeg + nI k = nI (b + k) := by rw [e2, nI_add]
      refine hX _ _ _ _ _ _ _ ?_
      refine b_ge (b := 4) rfl rfl (by omega) (by omega) (fun h => by omega) (fun h => ?_)
      refine ⟨vin e4 (by omega) (by omega), ?_⟩
      refine ⟨vp_in_nI (n := k) (N := 4) h (by omega), ?_⟩
      have e5 : σ 1 (σ 2 (σ 0 5).toNatClampNeg + nI k).toNatClampNeg = t (b + k) := by rw [clN e4 (by omega)]; exact h3 _ (by omega)
      refine ⟨fun h11 => ?_, fun h11 => ?_⟩
      · have h11 : σ 1 (σ 2 (σ 0 5).toNatClampNeg + nI k).toNatClampNeg = nI (List.getD [114, 97, 116, 115] (nI k).toNatClampNeg 0) := h11
        rw [e5, nI_clamp (by omega)] at h11
        refine hX _ _ _ _ _ _ _ ?_
        have h12 := ih (k + 1) (by omega) (by omega) ht (fun q hq => by
          by_cases e : q = k
          · rw [e]; exact h11
          · exact hall q (by omega))
        rw [← nI_1 k] at h12
        exact h12
      · have h11 : ¬ σ 1 (σ 2 (σ 0 5).toNatClampNeg + nI k).toNatClampNeg = nI (List.getD [114, 97, 116, 115] (nI k).toNatClampNeg 0) := h11
        rw [e5, nI_clamp (by omega)] at h11
        exact ⟨Or.inl rfl, q0 (fun z => h11 ((wB_iff.mp z).2 k h))⟩
  refine hX _ _ _ _ _ _ _ ?_
  refine ⟨vin a2 (by omega) (by omega), ?_⟩
  refine ⟨vin a2 (by omega) (by omega), ?_⟩
  refine b_eq (a := te t n b - b) (b := 4) (by rw [e2, e3, nI_sub a8]) rfl (by omega) (by omega) (fun h => ?_) (fun h => ?_)
  · refine hX _ _ _ _ _ _ _ ?_
    exact loop _ 0 rfl (by omega) (by omega) (fun q hq => by omega)
  · exact ⟨Or.inl rfl, q0 (fun z => by have z1 : te t n b = b + 4 := wB_te z (by decide); omega)⟩
end THG
