/-! THE MODEL: numbers of a text, words that must stand -/
section FIG
variable {d n p dp : Nat} {σ0 σ : mSg} {t : Nat → Int32} {f lo hi : Int32} {Q : mPst}
theorem g_figF (hf : ¬ f = -(nI 1)) (hP : PS σ0 σ p f dp) (hq : Q (.inl (some (.int (nI 0)))) sh_10 σ) : mD (d + 4) 103 [.ref 0, .int lo, .int hi] sh_10 σ Q := by
  refine ⟨rfl, fun X hX => ?_⟩
  refine hX _ _ _ _ _ _ _ ?_
  refine ⟨fun h => absurd (hP.2.2.1.symm.trans h) hf, fun _ => ?_⟩
  exact hq
theorem g_figures (hT : TX σ0 t n) (hP : PS σ0 σ p (-(nI 1)) dp) (hp : p ≤ n) (q1 : nB t n (sk t n p) lo hi = true → ∀ σ', PS σ0 σ' (run kD t n (sk t n p)) (-(nI 1)) dp → Q (.inl (some (.int (nV t n (sk t n p))))) sh_10 σ') (q0 : ¬ nB t n (sk t n p) lo hi = true → ∀ σ' p' v, p' ≤ n → PS σ0 σ' p' (nI (sk t n p)) dp → Q (.inl (some (.int v))) sh_10 σ') : mD (d + 4) 103 [.ref 0, .int lo, .int hi] sh_10 σ Q := by
  have hn := hT.2.1
  have hs : sk t n p ≤ n := sk_le hp
  refine ⟨rfl, fun X hX => ?_⟩
  generalize hb : sk t n p = b at *
  have hle := run_le (P := kD) (t := t) hs
  have bad : ∀ k σ1 v, b + k ≤ n → ¬ nB t n b lo hi = true → PS σ0 σ1 (b + k) (-(nI 1)) dp → X 119 [some (.ref 0), none, none, some (.int (nI b)), some (.int v)] [] sh_10 σ1 0 0 := by
    intro k σ1 v hk hb2 h1
    refine hX _ _ _ _ _ _ _ ?_
    refine g_wrong rfl h1 ?_
    intro σ2 h2
    refine hX _ _ _ _ _ _ _ ?_
    exact q0 hb2 σ2 _ _ hk h2
  have fin : ∀ k σ1, k ≤ 4 → b + k ≤ n → (k ≤ 3 → run kD t n b = b + k) → (k = 4 → b + 4 ≤ run kD t n b) → PS σ0 σ1 (b + k) (-(nI 1)) dp → X 89 [some (.ref 0), some (.int lo), some (.int hi), some (.int (nI b)), some (.int (dvI t b k))] [] sh_10 σ1 0 0 := by
    intro k σ1 hk hk2 h3 h4 h1
    refine hX _ _ _ _ _ _ _ ?_
    refine b_eq h1.2.1 rfl (by omega) (by omega) (fun h => ?_) (fun h => ?_)
    · exact bad k σ1 _ hk2 (fun z => by have := (nB_iff.mp z).1; have := h3 (by omega); omega) h1
    · refine b_gt (a := k) (b := 3) (by rw [h1.2.1, nI_sub (by omega)]; congr 1; omega) rfl (by omega) (by omega) (fun h5 => ?_) (fun h5 => ?_)
      · exact bad k σ1 _ hk2 (fun z => by have := (nB_iff.mp z).2.1; have := h4 (by omega); omega) h1
      · have e := h3 h5
        have ev : nV t n b = dvI t b k := by unfold nV; rw [e, Nat.add_sub_cancel_left]
        refine ⟨fun h6 => ?_, fun h6 => ?_⟩
        · exact bad k σ1 _ hk2 (fun z => by have := (nB_iff.mp z).2.2.1; rw [ev] at this; exact Int32.not_lt.mpr this h6) h1
        · refine ⟨fun h7 => ?_, fun h7 => ?_⟩
          · refine hX _ _ _ _ _ _ _ ?_
            rw [ev, e] at q1
            exact q1 (nB_iff.mpr ⟨by omega, by omega, by rw [ev]; exact Int32.not_lt.mp h6, by rw [ev]; exact h7⟩) σ1 h1
          · exact bad k σ1 _ hk2 (fun z => by have := (nB_iff.mp z).2.2.2; rw [ev] at this; exact h7 this) h1
  have loop : ∀ j k σ1, 4 - k = j → k ≤ 4 → b + k ≤ n → b + k ≤ run kD t n b → run kD t n b = run kD t n (b + k) → PS σ0 σ1 (b + k) (-(nI 1)) dp → X 18 [some (.ref 0), some (.int lo), some (.int hi), some (.int (nI b)), some (.int (dvI t b k))] [] sh_10 σ1 0 0 := by
    intro j
    induction j with
    | zero =>
      intro k σ1 hj hk hk2 hk3 hr h1
      have e4 : k = 4 := by omega
      refine hX _ _ _ _ _ _ _ ?_
      refine b_ge h1.2.1 (h1.en hT) (by omega) (by omega) (fun h => ?_) (fun h => ?_)
      · exact fin k σ1 hk hk2 (fun z => by omega) (fun z => by omega) h1
      · refine g_letter hT h1 h1.2.1 h ?_
        refine g_isIn (fun h2 => ?_) (fun h2 => ?_)
        · refine ⟨fun h3 => absurd h3 (by decide +kernel), fun _ => ?_⟩
          refine b_gt (a := k) (b := 3) (by rw [h1.2.1, nI_sub (by omega)]; congr 1; omega) rfl (by omega) (by omega) (fun h5 => ?_) (fun h5 => by omega)
          exact fin k σ1 hk hk2 (fun z => by omega) (fun z => by omega) h1
        · refine ⟨fun _ => ?_, fun h3 => absurd rfl h3⟩
          exact fin k σ1 hk hk2 (fun z => by omega) (fun z => by omega) h1
    | succ j ih =>
      intro k σ1 hj hk hk2 hk3 hr h1
      refine hX _ _ _ _ _ _ _ ?_
      refine b_ge h1.2.1 (h1.en hT) (by omega) (by omega) (fun h => ?_) (fun h => ?_)
      · exact fin k σ1 hk hk2 (fun _ => by omega) (fun z => by omega) h1
      · refine g_letter hT h1 h1.2.1 h ?_
        refine g_isIn (fun h2 => ?_) (fun h2 => ?_)
        · refine ⟨fun h3 => absurd h3 (by decide +kernel), fun _ => ?_⟩
          refine b_gt (a := k) (b := 3) (by rw [h1.2.1, nI_sub (by omega)]; congr 1; omega) rfl (by omega) (by omega) (fun h5 => by omega) (fun h5 => ?_)
          refine g_letter hT h1 h1.2.1 h ?_
          have hs2 := run_step (P := kD) (t := t) h (kD_iff.mpr h2)
          have hg2 := run_ge (P := kD) (t := t) (n := n) (p := b + k + 1)
          exact ih (k + 1) _ (by omega) (by omega) (by omega) (by omega) (by rw [hr]; exact hs2) (h1.at1 (by rw [h1.2.1]; exact nI_1 (b + k)))
        · refine ⟨fun _ => ?_, fun h3 => absurd rfl h3⟩
          exact fin k σ1 hk hk2 (fun _ => by rw [hr, run_stop (fun z => h2 (kD_iff.mp z.2))]) (fun z => by omega) h1
  refine hX _ _ _ _ _ _ _ ?_
  refine ⟨fun _ => ?_, fun h => absurd hP.2.2.1 h⟩
  refine hX _ _ _ _ _ _ _ ?_
  refine g_here hT hP (by omega) ?_
  intro σ1 h1
  rw [hb] at h1 ⊢
  exact loop _ 0 σ1 rfl (by omega) (by omega) run_ge rfl h1
/-- where a word with a number is wrong -/
def aE (t : Nat → Int32) (n b : Nat) (w : List Nat) : Nat := if wB t n b w = true then nx t n b else b
theorem nI_ne1 {e : Nat} (h : e ≤ 1000) : ¬ nI e = -(nI 1) := oN_ne (by omega)
end FIG
