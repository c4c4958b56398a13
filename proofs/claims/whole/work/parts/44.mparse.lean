/-! THE MODEL: it reads a condition -/
/-- what the model knows of a street when it reads -/
def rho (σ : mSg) : Nat → Int32
  | 8 => if σ 1 11 = nI 1 then nI 1 else nI 0
  | 9 => σ 0 15
  | 10 => if σ 6 3 < nI 20 then nI 0 else nI 1
  | 1 => σ 6 0
  | 2 => σ 6 1
  | 3 => σ 6 2
  | 4 => σ 6 3
  | 5 => σ 6 4
  | 6 => σ 6 5
  | 7 => σ 6 6
  | _ => nI 0
def b01 (v : Int32) : Prop := v = nI 0 ∨ v = nI 1
/-- of a method that reads a piece A of a text, in the model -/
def MP (σ0 : mSg) (t : Nat → Int32) (n dp D k j d : Nat) (bo : Int32 → Prop) (A : Nat → pR) : Prop := ∀ (σ : mSg) (p : Nat) (Q : mPst), p ≤ n → PS σ0 σ p (-(nI 1)) dp →
  (∀ b' c, A (sk t n p) = .inl (b', c) → ∀ σ' p' v, p' ≤ n → sk t n p' = b' → PS σ0 σ' p' (-(nI 1)) dp → Wf (rho σ0) c v k → bo v → Q (.inl (some (.int v))) sh_10 σ') →
  (∀ e, A (sk t n p) = .inr e → ∀ σ' p' v, p' ≤ n + D → PS σ0 σ' p' (nI e) dp → bo v → Q (.inl (some (.int v))) sh_10 σ') → mD d j [.ref 0] sh_10 σ Q
theorem b01_0 : b01 (nI 0) := Or.inl rfl
theorem b01_1 : b01 (nI 1) := Or.inr rfl
theorem b01_ne {v : Int32} (h : b01 v) (h2 : ¬ v = 0) : v = nI 1 := by
  rcases h with h | h
  · exact absurd h h2
  · exact h
theorem b01_z {v : Int32} (h : b01 v) : v = 0 ∨ v = 1 := h
section MPA
variable {d n dp : Nat} {σ0 : mSg} {t : Nat → Int32}
def anyV (_ : Int32) : Prop := True
theorem g_part (hT : TX σ0 t n) : MP σ0 t n dp 0 1 121 (d + 5) anyV (pPart t n) := by
  intro σ p Q hp hP q1 q0
  have hn := hT.2.1
  have hs : sk t n p ≤ n := sk_le hp
  generalize hb : sk t n p = b at *
  have hbs : sk t n b = b := by rw [← hb]; exact sk_idem
  refine ⟨rfl, fun X hX => ?_⟩
  refine hX _ _ _ _ _ _ _ ?_
  refine ⟨fun _ => ?_, fun h => absurd hP.2.2.1 h⟩
  refine hX _ _ _ _ _ _ _ ?_
  have word : ¬ (b < n ∧ kD (t b) = true) → ∀ σ1, PS σ0 σ1 b (-(nI 1)) dp → X 52 [some (.ref 0), none] [] sh_10 σ1 0 0 := by
    intro hd σ1 h1
    have hnB : ¬ nB t n b (nI 0) (nI 999) = true := fun z => hd (nB_lt z)
    have found : ∀ k w σ2, k < 7 → 0 < w.length → wB t n b w = true → pPart t n b = .inl (nx t n b, [cw (nI 0) (k + 1)]) → PS σ0 σ2 (b + w.length) (-(nI 1)) dp → X 145 [some (.ref 0), none] [.int (nI k)] sh_10 σ2 0 0 := by
      intro k w σ2 hk hw0 hw e h2
      have hte := wB_te hw hw0
      have htl := te_le (t := t) hs
      refine hX _ _ _ _ _ _ _ ?_
      refine ⟨fun _ => ?_, fun h => absurd h (oN_ne (by omega))⟩
      refine hX _ _ _ _ _ _ _ ?_
      refine ⟨vp_in_nI (n := k) (by omega) (by omega), ?_⟩
      refine q1 _ _ e σ2 _ _ (show b + w.length ≤ n by omega) (by unfold nx; rw [hte]) h2 ?_ trivial
      have ef : σ2 6 (nI k).toNatClampNeg = rho σ0 (k + 1) := by
        rw [nI_clamp (by omega), h2.1 6 k (by omega)]
        have hk7 : k = 0 ∨ k = 1 ∨ k = 2 ∨ k = 3 ∨ k = 4 ∨ k = 5 ∨ k = 6 := by omega
        rcases hk7 with rfl | rfl | rfl | rfl | rfl | rfl | rfl <;> rfl
      show Wf _ _ (σ2 6 (nI k).toNatClampNeg) 1
      rw [ef]
      exact Wf.fact (by omega) (by omega)
    refine hX _ _ _ _ _ _ _ ?_
    refine g_has_67 hT h1 hs (fun w1 σ2 h2 => ?_) (fun w1 σ2 h2 => ?_)
    · refine ⟨fun h => absurd h (by decide +kernel), fun _ => ?_⟩
      rw [hbs] at w1 h2
      exact found 0 _ σ2 (by omega) (by decide) w1 (by unfold pPart pW; rw [if_neg hnB, if_pos w1]) h2
    rw [hbs] at w1 h2
    refine ⟨fun _ => ?_, fun h => absurd rfl h⟩
    refine hX _ _ _ _ _ _ _ ?_
    refine g_has_68 hT h2 hs (fun w2 σ3 h3 => ?_) (fun w2 σ3 h3 => ?_)
    · refine ⟨fun h => absurd h (by decide +kernel), fun _ => ?_⟩
      rw [hbs] at w2 h3
      exact found 1 _ σ3 (by omega) (by decide) w2 (by unfold pPart; rw [if_neg hnB, pW, if_neg w1, pW, if_pos w2]) h3
    rw [hbs] at w2 h3
    refine ⟨fun _ => ?_, fun h => absurd rfl h⟩
    refine hX _ _ _ _ _ _ _ ?_
    refine g_has_69 hT h3 hs (fun w3 σ4 h4 => ?_) (fun w3 σ4 h4 => ?_)
    · refine ⟨fun h => absurd h (by decide +kernel), fun _ => ?_⟩
      rw [hbs] at w3 h4
      exact found 2 _ σ4 (by omega) (by decide) w3 (by unfold pPart; rw [if_neg hnB, pW, if_neg w1, pW, if_neg w2, pW, if_pos w3]) h4
    rw [hbs] at w3 h4
    refine ⟨fun _ => ?_, fun h => absurd rfl h⟩
    refine hX _ _ _ _ _ _ _ ?_
    refine g_has_70 hT h4 hs (fun w4 σ5 h5 => ?_) (fun w4 σ5 h5 => ?_)
    · refine ⟨fun h => absurd h (by decide +kernel), fun _ => ?_⟩
      rw [hbs] at w4 h5
      exact found 3 _ σ5 (by omega) (by decide) w4 (by unfold pPart; rw [if_neg hnB, pW, if_neg w1, pW, if_neg w2, pW, if_neg w3, pW, if_pos w4]) h5
    rw [hbs] at w4 h5
    refine ⟨fun _ => ?_, fun h => absurd rfl h⟩
    refine hX _ _ _ _ _ _ _ ?_
    refine g_has_71 hT h5 hs (fun w5 σ6 h6 => ?_) (fun w5 σ6 h6 => ?_)
    · refine ⟨fun h => absurd h (by decide +kernel), fun _ => ?_⟩
      rw [hbs] at w5 h6
      exact found 4 _ σ6 (by omega) (by decide) w5 (by unfold pPart; rw [if_neg hnB, pW, if_neg w1, pW, if_neg w2, pW, if_neg w3, pW, if_neg w4, pW, if_pos w5]) h6
    rw [hbs] at w5 h6
    refine ⟨fun _ => ?_, fun h => absurd rfl h⟩
    refine hX _ _ _ _ _ _ _ ?_
    refine g_has_72 hT h6 hs (fun w6 σ7 h7 => ?_) (fun w6 σ7 h7 => ?_)
    · refine ⟨fun h => absurd h (by decide +kernel), fun _ => ?_⟩
      rw [hbs] at w6 h7
      exact found 5 _ σ7 (by omega) (by decide) w6 (by unfold pPart; rw [if_neg hnB, pW, if_neg w1, pW, if_neg w2, pW, if_neg w3, pW, if_neg w4, pW, if_neg w5, pW, if_pos w6]) h7
    rw [hbs] at w6 h7
    refine ⟨fun _ => ?_, fun h => absurd rfl h⟩
    refine hX _ _ _ _ _ _ _ ?_
    refine g_has_73 hT h7 hs (fun w7 σ8 h8 => ?_) (fun w7 σ8 h8 => ?_)
    · refine ⟨fun h => absurd h (by decide +kernel), fun _ => ?_⟩
      rw [hbs] at w7 h8
      exact found 6 _ σ8 (by omega) (by decide) w7 (by unfold pPart; rw [if_neg hnB, pW, if_neg w1, pW, if_neg w2, pW, if_neg w3, pW, if_neg w4, pW, if_neg w5, pW, if_neg w6, pW, if_pos w7]) h8
    rw [hbs] at w7 h8
    refine ⟨fun _ => ?_, fun h => absurd rfl h⟩
    refine hX _ _ _ _ _ _ _ ?_
    refine hX _ _ _ _ _ _ _ ?_
    refine ⟨fun h => absurd rfl h, fun _ => ?_⟩
    refine g_wrong h8.2.1 h8 ?_
    intro σ9 h9
    exact q0 b (by unfold pPart; rw [if_neg hnB, pW, if_neg w1, pW, if_neg w2, pW, if_neg w3, pW, if_neg w4, pW, if_neg w5, pW, if_neg w6, pW, if_neg w7, pW]) σ9 b _ hs h9 trivial
  refine g_skip hT hP (by omega) ?_
  intro σ1 h1
  rw [hb] at h1
  refine b_ge h1.2.1 (h1.en hT) (by omega) (by omega) (fun h => ?_) (fun h => ?_)
  · exact word (fun z => by omega) σ1 h1
  · refine g_letter hT h1 h1.2.1 h ?_
    refine g_isIn (fun h2 => ?_) (fun h2 => ?_)
    · refine ⟨fun h3 => absurd h3 (by decide +kernel), fun _ => ?_⟩
      have hkd := kD_iff.mpr h2
      refine g_figures (lo := nI 0) (hi := nI 999) hT h1 hs (fun h3 σ2 P2 => ?_) (fun h3 σ2 p2 v h4 P2 => ?_)
      · rw [hbs] at h3 P2 ⊢
        have hte := nB_te h3
        obtain ⟨j, -, hj, ej⟩ := nB_val h3 (by omega) (by omega)
        refine q1 _ _ (by unfold pPart; rw [if_pos h3]) σ2 _ _ (run_le hs) (by unfold nx; rw [hte]) P2 ?_ trivial
        rw [ej]
        exact Wf.num (by omega)
      · rw [hbs] at h3 P2
        have hw : ∀ w : List Nat, 0 < w.length → ¬ wB t n b w = true := fun w hw0 z => kL_D (wB_lt z hw0).2 hkd
        refine q0 b ?_ σ2 p2 v h4 P2 trivial
        unfold pPart
        rw [if_neg h3, pW, if_neg (hw _ (by decide)), pW, if_neg (hw _ (by decide)), pW, if_neg (hw _ (by decide)), pW, if_neg (hw _ (by decide)), pW, if_neg (hw _ (by decide)), pW, if_neg (hw _ (by decide)), pW, if_neg (hw _ (by decide)), pW]
    · refine ⟨fun _ => ?_, fun h3 => absurd rfl h3⟩
      exact word (fun z => h2 (kD_iff.mp z.2)) σ1 h1
end MPA
