/-! THE MODEL: words with numbers -/
section AFT
variable {d n p dp : Nat} {σ0 σ : mSg} {t : Nat → Int32} {f lo hi : Int32} {Q : mPst}
theorem g_afterF_76 (hf : ¬ f = -(nI 1)) (hP : PS σ0 σ p f dp) (hq : Q (.inl (some (.int (nI 0)))) sh_10 σ) : mD (d + 5) 104 [.ref 0, .ref 1076, .int lo, .int hi] sh_10 σ Q := by
  refine ⟨rfl, fun X hX => ?_⟩
  refine hX _ _ _ _ _ _ _ ?_
  refine ⟨fun h => ?_, fun h => absurd (hP.2.2.1.symm.trans h) hf⟩
  refine hX _ _ _ _ _ _ _ ?_
  exact g_figF hf hP hq
theorem g_afterF_79 (hf : ¬ f = -(nI 1)) (hP : PS σ0 σ p f dp) (hq : Q (.inl (some (.int (nI 0)))) sh_10 σ) : mD (d + 5) 104 [.ref 0, .ref 1079, .int lo, .int hi] sh_10 σ Q := by
  refine ⟨rfl, fun X hX => ?_⟩
  refine hX _ _ _ _ _ _ _ ?_
  refine ⟨fun h => ?_, fun h => absurd (hP.2.2.1.symm.trans h) hf⟩
  refine hX _ _ _ _ _ _ _ ?_
  exact g_figF hf hP hq
theorem g_afterF_80 (hf : ¬ f = -(nI 1)) (hP : PS σ0 σ p f dp) (hq : Q (.inl (some (.int (nI 0)))) sh_10 σ) : mD (d + 5) 104 [.ref 0, .ref 1080, .int lo, .int hi] sh_10 σ Q := by
  refine ⟨rfl, fun X hX => ?_⟩
  refine hX _ _ _ _ _ _ _ ?_
  refine ⟨fun h => ?_, fun h => absurd (hP.2.2.1.symm.trans h) hf⟩
  refine hX _ _ _ _ _ _ _ ?_
  exact g_figF hf hP hq
theorem g_afterF_83 (hf : ¬ f = -(nI 1)) (hP : PS σ0 σ p f dp) (hq : Q (.inl (some (.int (nI 0)))) sh_10 σ) : mD (d + 5) 104 [.ref 0, .ref 1083, .int lo, .int hi] sh_10 σ Q := by
  refine ⟨rfl, fun X hX => ?_⟩
  refine hX _ _ _ _ _ _ _ ?_
  refine ⟨fun h => ?_, fun h => absurd (hP.2.2.1.symm.trans h) hf⟩
  refine hX _ _ _ _ _ _ _ ?_
  exact g_figF hf hP hq
theorem g_afterF_84 (hf : ¬ f = -(nI 1)) (hP : PS σ0 σ p f dp) (hq : Q (.inl (some (.int (nI 0)))) sh_10 σ) : mD (d + 5) 104 [.ref 0, .ref 1084, .int lo, .int hi] sh_10 σ Q := by
  refine ⟨rfl, fun X hX => ?_⟩
  refine hX _ _ _ _ _ _ _ ?_
  refine ⟨fun h => ?_, fun h => absurd (hP.2.2.1.symm.trans h) hf⟩
  refine hX _ _ _ _ _ _ _ ?_
  exact g_figF hf hP hq
theorem g_afterF_85 (hf : ¬ f = -(nI 1)) (hP : PS σ0 σ p f dp) (hq : Q (.inl (some (.int (nI 0)))) sh_10 σ) : mD (d + 5) 104 [.ref 0, .ref 1085, .int lo, .int hi] sh_10 σ Q := by
  refine ⟨rfl, fun X hX => ?_⟩
  refine hX _ _ _ _ _ _ _ ?_
  refine ⟨fun h => ?_, fun h => absurd (hP.2.2.1.symm.trans h) hf⟩
  refine hX _ _ _ _ _ _ _ ?_
  exact g_figF hf hP hq
theorem g_after_76 (hT : TX σ0 t n) (hP : PS σ0 σ p (-(nI 1)) dp) (hp : p ≤ n) (q1 : wB t n (sk t n p) [97, 116] = true → nB t n (nx t n (sk t n p)) lo hi = true → ∀ σ', PS σ0 σ' (run kD t n (nx t n (sk t n p))) (-(nI 1)) dp → Q (.inl (some (.int (nV t n (nx t n (sk t n p)))))) sh_10 σ') (q0 : ¬ (wB t n (sk t n p) [97, 116] = true ∧ nB t n (nx t n (sk t n p)) lo hi = true) → ∀ σ' p' v, p' ≤ n → PS σ0 σ' p' (nI (aE t n (sk t n p) [97, 116])) dp → Q (.inl (some (.int v))) sh_10 σ') : mD (d + 5) 104 [.ref 0, .ref 1076, .int lo, .int hi] sh_10 σ Q := by
  have hn := hT.2.1
  have hs : sk t n p ≤ n := sk_le hp
  refine ⟨rfl, fun X hX => ?_⟩
  generalize hb : sk t n p = b at *
  refine hX _ _ _ _ _ _ _ ?_
  refine ⟨fun h => absurd hP.2.2.1 h, fun _ => ?_⟩
  refine g_has_76 hT hP hp (fun h1 σ1 P1 => ?_) (fun h1 σ1 P1 => ?_)
  · rw [hb] at h1 P1
    have hte : te t n b = b + 2 := wB_te h1 (by decide)
    have htl := te_le (t := t) hs
    refine ⟨fun _ => ?_, fun h => absurd h (by decide +kernel)⟩
    refine hX _ _ _ _ _ _ _ ?_
    have enx : sk t n (b + 2) = nx t n b := by unfold nx; rw [hte]
    refine g_figures hT P1 (by omega) (fun h2 σ2 P2 => ?_) (fun h2 σ2 p2 v h3 P2 => ?_)
    · rw [enx] at h2 P2 ⊢
      exact q1 h1 h2 σ2 P2
    · rw [enx] at h2 P2
      refine q0 (fun z => h2 z.2) σ2 p2 v h3 ?_
      unfold aE; rw [if_pos h1]; exact P2
  · rw [hb] at h1 P1
    refine ⟨fun h => absurd rfl h, fun _ => ?_⟩
    refine g_wrong P1.2.1 P1 ?_
    intro σ2 P2
    refine hX _ _ _ _ _ _ _ ?_
    refine g_figF (nI_ne1 (by omega)) P2 ?_
    refine q0 (fun z => h1 z.1) σ2 b _ hs ?_
    unfold aE; rw [if_neg h1]; exact P2
theorem g_after_79 (hT : TX σ0 t n) (hP : PS σ0 σ p (-(nI 1)) dp) (hp : p ≤ n) (q1 : wB t n (sk t n p) [104, 111, 108, 100] = true → nB t n (nx t n (sk t n p)) lo hi = true → ∀ σ', PS σ0 σ' (run kD t n (nx t n (sk t n p))) (-(nI 1)) dp → Q (.inl (some (.int (nV t n (nx t n (sk t n p)))))) sh_10 σ') (q0 : ¬ (wB t n (sk t n p) [104, 111, 108, 100] = true ∧ nB t n (nx t n (sk t n p)) lo hi = true) → ∀ σ' p' v, p' ≤ n → PS σ0 σ' p' (nI (aE t n (sk t n p) [104, 111, 108, 100])) dp → Q (.inl (some (.int v))) sh_10 σ') : mD (d + 5) 104 [.ref 0, .ref 1079, .int lo, .int hi] sh_10 σ Q := by
  have hn := hT.2.1
  have hs : sk t n p ≤ n := sk_le hp
  refine ⟨rfl, fun X hX => ?_⟩
  generalize hb : sk t n p = b at *
  refine hX _ _ _ _ _ _ _ ?_
  refine ⟨fun h => absurd hP.2.2.1 h, fun _ => ?_⟩
  refine g_has_79 hT hP hp (fun h1 σ1 P1 => ?_) (fun h1 σ1 P1 => ?_)
  · rw [hb] at h1 P1
    have hte : te t n b = b + 4 := wB_te h1 (by decide)
    have htl := te_le (t := t) hs
    refine ⟨fun _ => ?_, fun h => absurd h (by decide +kernel)⟩
    refine hX _ _ _ _ _ _ _ ?_
    have enx : sk t n (b + 4) = nx t n b := by unfold nx; rw [hte]
    refine g_figures hT P1 (by omega) (fun h2 σ2 P2 => ?_) (fun h2 σ2 p2 v h3 P2 => ?_)
    · rw [enx] at h2 P2 ⊢
      exact q1 h1 h2 σ2 P2
    · rw [enx] at h2 P2
      refine q0 (fun z => h2 z.2) σ2 p2 v h3 ?_
      unfold aE; rw [if_pos h1]; exact P2
  · rw [hb] at h1 P1
    refine ⟨fun h => absurd rfl h, fun _ => ?_⟩
    refine g_wrong P1.2.1 P1 ?_
    intro σ2 P2
    refine hX _ _ _ _ _ _ _ ?_
    refine g_figF (nI_ne1 (by omega)) P2 ?_
    refine q0 (fun z => h1 z.1) σ2 b _ hs ?_
    unfold aE; rw [if_neg h1]; exact P2
theorem g_after_80 (hT : TX σ0 t n) (hP : PS σ0 σ p (-(nI 1)) dp) (hp : p ≤ n) (q1 : wB t n (sk t n p) [103, 111, 101, 115] = true → nB t n (nx t n (sk t n p)) lo hi = true → ∀ σ', PS σ0 σ' (run kD t n (nx t n (sk t n p))) (-(nI 1)) dp → Q (.inl (some (.int (nV t n (nx t n (sk t n p)))))) sh_10 σ') (q0 : ¬ (wB t n (sk t n p) [103, 111, 101, 115] = true ∧ nB t n (nx t n (sk t n p)) lo hi = true) → ∀ σ' p' v, p' ≤ n → PS σ0 σ' p' (nI (aE t n (sk t n p) [103, 111, 101, 115])) dp → Q (.inl (some (.int v))) sh_10 σ') : mD (d + 5) 104 [.ref 0, .ref 1080, .int lo, .int hi] sh_10 σ Q := by
  have hn := hT.2.1
  have hs : sk t n p ≤ n := sk_le hp
  refine ⟨rfl, fun X hX => ?_⟩
  generalize hb : sk t n p = b at *
  refine hX _ _ _ _ _ _ _ ?_
  refine ⟨fun h => absurd hP.2.2.1 h, fun _ => ?_⟩
  refine g_has_80 hT hP hp (fun h1 σ1 P1 => ?_) (fun h1 σ1 P1 => ?_)
  · rw [hb] at h1 P1
    have hte : te t n b = b + 4 := wB_te h1 (by decide)
    have htl := te_le (t := t) hs
    refine ⟨fun _ => ?_, fun h => absurd h (by decide +kernel)⟩
    refine hX _ _ _ _ _ _ _ ?_
    have enx : sk t n (b + 4) = nx t n b := by unfold nx; rw [hte]
    refine g_figures hT P1 (by omega) (fun h2 σ2 P2 => ?_) (fun h2 σ2 p2 v h3 P2 => ?_)
    · rw [enx] at h2 P2 ⊢
      exact q1 h1 h2 σ2 P2
    · rw [enx] at h2 P2
      refine q0 (fun z => h2 z.2) σ2 p2 v h3 ?_
      unfold aE; rw [if_pos h1]; exact P2
  · rw [hb] at h1 P1
    refine ⟨fun h => absurd rfl h, fun _ => ?_⟩
    refine g_wrong P1.2.1 P1 ?_
    intro σ2 P2
    refine hX _ _ _ _ _ _ _ ?_
    refine g_figF (nI_ne1 (by omega)) P2 ?_
    refine q0 (fun z => h1 z.1) σ2 b _ hs ?_
    unfold aE; rw [if_neg h1]; exact P2
theorem g_after_83 (hT : TX σ0 t n) (hP : PS σ0 σ p (-(nI 1)) dp) (hp : p ≤ n) (q1 : wB t n (sk t n p) [116, 111] = true → nB t n (nx t n (sk t n p)) lo hi = true → ∀ σ', PS σ0 σ' (run kD t n (nx t n (sk t n p))) (-(nI 1)) dp → Q (.inl (some (.int (nV t n (nx t n (sk t n p)))))) sh_10 σ') (q0 : ¬ (wB t n (sk t n p) [116, 111] = true ∧ nB t n (nx t n (sk t n p)) lo hi = true) → ∀ σ' p' v, p' ≤ n → PS σ0 σ' p' (nI (aE t n (sk t n p) [116, 111])) dp → Q (.inl (some (.int v))) sh_10 σ') : mD (d + 5) 104 [.ref 0, .ref 1083, .int lo, .int hi] sh_10 σ Q := by
  have hn := hT.2.1
  have hs : sk t n p ≤ n := sk_le hp
  refine ⟨rfl, fun X hX => ?_⟩
  generalize hb : sk t n p = b at *
  refine hX _ _ _ _ _ _ _ ?_
  refine ⟨fun h => absurd hP.2.2.1 h, fun _ => ?_⟩
  refine g_has_83 hT hP hp (fun h1 σ1 P1 => ?_) (fun h1 σ1 P1 => ?_)
  · rw [hb] at h1 P1
    have hte : te t n b = b + 2 := wB_te h1 (by decide)
    have htl := te_le (t := t) hs
    refine ⟨fun _ => ?_, fun h => absurd h (by decide +kernel)⟩
    refine hX _ _ _ _ _ _ _ ?_
    have enx : sk t n (b + 2) = nx t n b := by unfold nx; rw [hte]
    refine g_figures hT P1 (by omega) (fun h2 σ2 P2 => ?_) (fun h2 σ2 p2 v h3 P2 => ?_)
    · rw [enx] at h2 P2 ⊢
      exact q1 h1 h2 σ2 P2
    · rw [enx] at h2 P2
      refine q0 (fun z => h2 z.2) σ2 p2 v h3 ?_
      unfold aE; rw [if_pos h1]; exact P2
  · rw [hb] at h1 P1
    refine ⟨fun h => absurd rfl h, fun _ => ?_⟩
    refine g_wrong P1.2.1 P1 ?_
    intro σ2 P2
    refine hX _ _ _ _ _ _ _ ?_
    refine g_figF (nI_ne1 (by omega)) P2 ?_
    refine q0 (fun z => h1 z.1) σ2 b _ hs ?_
    unfold aE; rw [if_neg h1]; exact P2
theorem g_after_84 (hT : TX σ0 t n) (hP : PS σ0 σ p (-(nI 1)) dp) (hp : p ≤ n) (q1 : wB t n (sk t n p) [109, 97, 110, 121] = true → nB t n (nx t n (sk t n p)) lo hi = true → ∀ σ', PS σ0 σ' (run kD t n (nx t n (sk t n p))) (-(nI 1)) dp → Q (.inl (some (.int (nV t n (nx t n (sk t n p)))))) sh_10 σ') (q0 : ¬ (wB t n (sk t n p) [109, 97, 110, 121] = true ∧ nB t n (nx t n (sk t n p)) lo hi = true) → ∀ σ' p' v, p' ≤ n → PS σ0 σ' p' (nI (aE t n (sk t n p) [109, 97, 110, 121])) dp → Q (.inl (some (.int v))) sh_10 σ') : mD (d + 5) 104 [.ref 0, .ref 1084, .int lo, .int hi] sh_10 σ Q := by
  have hn := hT.2.1
  have hs : sk t n p ≤ n := sk_le hp
  refine ⟨rfl, fun X hX => ?_⟩
  generalize hb : sk t n p = b at *
  refine hX _ _ _ _ _ _ _ ?_
  refine ⟨fun h => absurd hP.2.2.1 h, fun _ => ?_⟩
  refine g_has_84 hT hP hp (fun h1 σ1 P1 => ?_) (fun h1 σ1 P1 => ?_)
  · rw [hb] at h1 P1
    have hte : te t n b = b + 4 := wB_te h1 (by decide)
    have htl := te_le (t := t) hs
    refine ⟨fun _ => ?_, fun h => absurd h (by decide +kernel)⟩
    refine hX _ _ _ _ _ _ _ ?_
    have enx : sk t n (b + 4) = nx t n b := by unfold nx; rw [hte]
    refine g_figures hT P1 (by omega) (fun h2 σ2 P2 => ?_) (fun h2 σ2 p2 v h3 P2 => ?_)
    · rw [enx] at h2 P2 ⊢
      exact q1 h1 h2 σ2 P2
    · rw [enx] at h2 P2
      refine q0 (fun z => h2 z.2) σ2 p2 v h3 ?_
      unfold aE; rw [if_pos h1]; exact P2
  · rw [hb] at h1 P1
    refine ⟨fun h => absurd rfl h, fun _ => ?_⟩
    refine g_wrong P1.2.1 P1 ?_
    intro σ2 P2
    refine hX _ _ _ _ _ _ _ ?_
    refine g_figF (nI_ne1 (by omega)) P2 ?_
    refine q0 (fun z => h1 z.1) σ2 b _ hs ?_
    unfold aE; rw [if_neg h1]; exact P2
theorem g_after_85 (hT : TX σ0 t n) (hP : PS σ0 σ p (-(nI 1)) dp) (hp : p ≤ n) (q1 : wB t n (sk t n p) [112, 97, 121, 115] = true → nB t n (nx t n (sk t n p)) lo hi = true → ∀ σ', PS σ0 σ' (run kD t n (nx t n (sk t n p))) (-(nI 1)) dp → Q (.inl (some (.int (nV t n (nx t n (sk t n p)))))) sh_10 σ') (q0 : ¬ (wB t n (sk t n p) [112, 97, 121, 115] = true ∧ nB t n (nx t n (sk t n p)) lo hi = true) → ∀ σ' p' v, p' ≤ n → PS σ0 σ' p' (nI (aE t n (sk t n p) [112, 97, 121, 115])) dp → Q (.inl (some (.int v))) sh_10 σ') : mD (d + 5) 104 [.ref 0, .ref 1085, .int lo, .int hi] sh_10 σ Q := by
  have hn := hT.2.1
  have hs : sk t n p ≤ n := sk_le hp
  refine ⟨rfl, fun X hX => ?_⟩
  generalize hb : sk t n p = b at *
  refine hX _ _ _ _ _ _ _ ?_
  refine ⟨fun h => absurd hP.2.2.1 h, fun _ => ?_⟩
  refine g_has_85 hT hP hp (fun h1 σ1 P1 => ?_) (fun h1 σ1 P1 => ?_)
  · rw [hb] at h1 P1
    have hte : te t n b = b + 4 := wB_te h1 (by decide)
    have htl := te_le (t := t) hs
    refine ⟨fun _ => ?_, fun h => absurd h (by decide +kernel)⟩
    refine hX _ _ _ _ _ _ _ ?_
    have enx : sk t n (b + 4) = nx t n b := by unfold nx; rw [hte]
    refine g_figures hT P1 (by omega) (fun h2 σ2 P2 => ?_) (fun h2 σ2 p2 v h3 P2 => ?_)
    · rw [enx] at h2 P2 ⊢
      exact q1 h1 h2 σ2 P2
    · rw [enx] at h2 P2
      refine q0 (fun z => h2 z.2) σ2 p2 v h3 ?_
      unfold aE; rw [if_pos h1]; exact P2
  · rw [hb] at h1 P1
    refine ⟨fun h => absurd rfl h, fun _ => ?_⟩
    refine g_wrong P1.2.1 P1 ?_
    intro σ2 P2
    refine hX _ _ _ _ _ _ _ ?_
    refine g_figF (nI_ne1 (by omega)) P2 ?_
    refine q0 (fun z => h1 z.1) σ2 b _ hs ?_
    unfold aE; rw [if_neg h1]; exact P2
theorem g_expectsF_77 (hf : ¬ f = -(nI 1)) (hP : PS σ0 σ p f dp) (hq : Q (.inl (some (.int (nI 0)))) sh_10 σ) : mD (d + 4) 105 [.ref 0, .ref 1077] sh_10 σ Q := by
  refine ⟨rfl, fun X hX => ?_⟩
  refine hX _ _ _ _ _ _ _ ?_
  refine ⟨fun h => absurd (hP.2.2.1.symm.trans h) hf, fun _ => ?_⟩
  exact ⟨Or.inl rfl, hq⟩
theorem g_expects_77 (hT : TX σ0 t n) (hP : PS σ0 σ p (-(nI 1)) dp) (hp : p ≤ n) (q1 : wB t n (sk t n p) [109, 105, 120] = true → ∀ σ', PS σ0 σ' (sk t n p + 3) (-(nI 1)) dp → Q (.inl (some (.int (nI 1)))) sh_10 σ') (q0 : ¬ wB t n (sk t n p) [109, 105, 120] = true → ∀ σ', PS σ0 σ' (sk t n p) (nI (sk t n p)) dp → Q (.inl (some (.int (nI 0)))) sh_10 σ') : mD (d + 4) 105 [.ref 0, .ref 1077] sh_10 σ Q := by
  refine ⟨rfl, fun X hX => ?_⟩
  refine hX _ _ _ _ _ _ _ ?_
  refine ⟨fun _ => ?_, fun h => absurd hP.2.2.1 h⟩
  refine hX _ _ _ _ _ _ _ ?_
  refine g_has_77 hT hP hp (fun h1 σ1 P1 => ?_) (fun h1 σ1 P1 => ?_)
  · refine ⟨fun _ => ?_, fun h => absurd h (by decide +kernel)⟩
    refine hX _ _ _ _ _ _ _ ?_
    exact ⟨Or.inr rfl, q1 h1 σ1 P1⟩
  · refine ⟨fun h => absurd rfl h, fun _ => ?_⟩
    refine g_wrong P1.2.1 P1 ?_
    intro σ2 P2
    refine hX _ _ _ _ _ _ _ ?_
    exact ⟨Or.inl rfl, q0 h1 σ2 P2⟩
theorem g_afterE_83 {lo0 : Int32} (elo : lo0 = lo) (hT : TX σ0 t n) (hP : PS σ0 σ p (-(nI 1)) dp) (hp : p ≤ n) (q1 : wB t n (sk t n p) [116, 111] = true → nB t n (nx t n (sk t n p)) lo hi = true → ∀ σ', PS σ0 σ' (run kD t n (nx t n (sk t n p))) (-(nI 1)) dp → Q (.inl (some (.int (nV t n (nx t n (sk t n p)))))) sh_10 σ') (q0 : ¬ (wB t n (sk t n p) [116, 111] = true ∧ nB t n (nx t n (sk t n p)) lo hi = true) → ∀ σ' p' v, p' ≤ n → PS σ0 σ' p' (nI (aE t n (sk t n p) [116, 111])) dp → Q (.inl (some (.int v))) sh_10 σ') : mD (d + 5) 104 [.ref 0, .ref 1083, .int lo0, .int hi] sh_10 σ Q := by
  subst elo
  exact g_after_83 hT hP hp q1 q0
end AFT
