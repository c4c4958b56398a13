/-! THE CLASS: the tape parted into things -/
def kd (c : Int32) : Nat := if kB c = true then 0 else if kL c = true then 1 else if kD c = true then 2 else 3
/-- where the things begin, one behind another -/
def bg (t : Nat → Int32) (n : Nat) : Nat → Nat
  | 0 => sk t n 0
  | j + 1 => nx t n (bg t n j)
section BG
variable {t : Nat → Int32} {n b q j : Nat}
theorem te_n : te t n n = n := by unfold te; rw [if_neg (by omega)]
theorem bg_le : ∀ j, bg t n j ≤ n
  | 0 => sk_le (Nat.zero_le _)
  | j + 1 => nx_le (bg_le j)
theorem bg_sk : ∀ j, sk t n (bg t n j) = bg t n j
  | 0 => sk_idem
  | j + 1 => nx_sk
theorem bg_nb (h : bg t n j < n) : ¬ kB (t (bg t n j)) = true := by
  have h2 := sk_nb (t := t) (n := n) (p := bg t n j)
  rw [bg_sk] at h2
  exact h2 h
theorem kd_in (hb : b < n) (h1 : b < q) (h2 : q < te t n b) : kd (t q) = kd (t (q - 1)) ∧ (kd (t q) = 1 ∨ kd (t q) = 2) := by
  unfold te at h2
  rw [if_pos hb] at h2
  split at h2
  · have a1 := (run_all (q := q) (by omega) h2).2
    have a2 := (run_all (P := kL) (t := t) (n := n) (p := b) (q := q - 1) (by omega) (by omega)).2
    unfold kd
    rw [if_neg (kL_B a1), if_neg (kL_B a2), if_pos a1, if_pos a2]
    exact ⟨rfl, Or.inl rfl⟩
  · split at h2
    · have a1 := (run_all (q := q) (by omega) h2).2
      have a2 := (run_all (P := kD) (t := t) (n := n) (p := b) (q := q - 1) (by omega) (by omega)).2
      unfold kd
      rw [if_neg (kD_B a1), if_neg (kD_B a2), if_neg (fun z => kL_D z a1), if_neg (fun z => kL_D z a2), if_pos a1, if_pos a2]
      exact ⟨rfl, Or.inr rfl⟩
    · omega
theorem kd_L {c : Int32} (h : kd c = 1) : kL c = true := by
  unfold kd at h
  split at h
  · omega
  · split at h
    · assumption
    · split at h <;> omega
theorem kd_D {c : Int32} (h : kd c = 2) : kD c = true := by
  unfold kd at h
  split at h
  · omega
  · split at h
    · omega
    · split at h
      · assumption
      · omega
theorem kd_end (hb : b < n) (hq : q = te t n b) (h2 : q < n) : ¬ (kd (t q) = kd (t (q - 1)) ∧ (kd (t q) = 1 ∨ kd (t q) = 2)) := by
  rintro ⟨h3, h4⟩
  have hgt := te_gt (t := t) hb
  unfold te at hq
  rw [if_pos hb] at hq
  split at hq
  · rename_i hL
    have a2 := (run_all (P := kL) (t := t) (n := n) (p := b) (q := q - 1) (by unfold te at hgt; rw [if_pos hb, if_pos hL] at hgt; omega) (by unfold te at hgt; rw [if_pos hb, if_pos hL] at hgt; omega)).2
    have e1 : kd (t (q - 1)) = 1 := by unfold kd; rw [if_neg (kL_B a2), if_pos a2]
    have := kd_L (h3.trans e1)
    rw [hq] at this h2
    exact run_end ⟨h2, this⟩
  · split at hq
    · rename_i hL hD
      have hg2 : b < run kD t n b := by unfold te at hgt; rw [if_pos hb, if_neg hL, if_pos hD] at hgt; exact hgt
      have a2 := (run_all (P := kD) (t := t) (n := n) (p := b) (q := q - 1) (by omega) (by omega)).2
      have e1 : kd (t (q - 1)) = 2 := by unfold kd; rw [if_neg (kD_B a2), if_neg (fun z => kL_D z a2), if_pos a2]
      have := kd_D (h3.trans e1)
      rw [hq] at this h2
      exact run_end ⟨h2, this⟩
    · rename_i hL hD
      rw [hq, Nat.add_sub_cancel] at h3
      rw [hq] at h4
      rcases h4 with h5 | h5
      · exact hL (kd_L (h3.symm.trans h5))
      · exact hD (kd_D (h3.symm.trans h5))
theorem kd_0 {c : Int32} : kd c = 0 ↔ kB c = true := by
  unfold kd
  split
  · rename_i h; exact ⟨fun _ => h, fun _ => rfl⟩
  · rename_i h
    refine ⟨fun z => ?_, fun z => absurd z h⟩
    split at z
    · omega
    · split at z <;> omega
theorem kd_lt {c : Int32} : kd c < 4 := by
  unfold kd
  split
  · omega
  · split
    · omega
    · split <;> omega
end BG
/-- the tape holds a text, parted, and stands at thing i -/
def TK (σ : mSg) (t : Nat → Int32) (n i : Nat) : Prop := n ≤ 400 ∧ σ 0 3 = nI n ∧ (∀ k, k < n → σ 1 k = t k) ∧ ∃ th, th ≤ n ∧ σ 0 4 = nI th ∧ σ 0 5 = nI i ∧ i ≤ th ∧ (∀ j, j ≤ th → σ 2 j = nI (bg t n j) ∧ σ 3 j = nI (te t n (bg t n j))) ∧ (∀ j, j < th → bg t n j < n) ∧ bg t n th = n
section TAP
variable {d n i : Nat} {σ : mSg} {t : Nat → Int32} {Q : mPst} {sh : List mSh}
theorem c_kindOf {c : Int32} (hq : Q (.inl (some (.int (nI (kd c))))) sh σ) : mD (d + 1) 335 [.int c] sh σ Q := by
  unfold kd at hq
  refine ⟨rfl, fun X hX => ?_⟩
  refine hX _ _ _ _ _ _ _ ?_
  refine ⟨fun h => ?_, fun h => ?_⟩
  · have h : ¬ c = nI 32 := h
    rw [if_neg (fun z => h (kB_iff.mp z))] at hq
    have dg : ¬ kL c = true → X 22 [some (.int c)] [] sh σ 0 0 := by
      intro h2
      rw [if_neg h2] at hq
      refine hX _ _ _ _ _ _ _ ?_
      refine ⟨fun h3 => ?_, fun h3 => ⟨fun h4 => ?_, fun h4 => ?_⟩⟩
      · have h3 : c < nI 48 := h3
        rw [if_neg (fun z => Int32.not_le.mpr h3 (kD_iff.mp z).1)] at hq
        refine hX _ _ _ _ _ _ _ ?_
        refine hX _ _ _ _ _ _ _ ?_
        exact hq
      · have h4 : nI 57 < c := h4
        rw [if_neg (fun z => Int32.not_le.mpr h4 (kD_iff.mp z).2)] at hq
        refine hX _ _ _ _ _ _ _ ?_
        refine hX _ _ _ _ _ _ _ ?_
        exact hq
      · have h3 : ¬ c < nI 48 := h3
        have h4 : ¬ nI 57 < c := h4
        rw [if_pos (kD_iff.mpr ⟨Int32.not_lt.mp h3, Int32.not_lt.mp h4⟩)] at hq
        refine hX _ _ _ _ _ _ _ ?_
        exact hq
    refine hX _ _ _ _ _ _ _ ?_
    refine ⟨fun h3 => ?_, fun h3 => ⟨fun h4 => ?_, fun h4 => ?_⟩⟩
    · have h3 : c < nI 97 := h3
      exact dg (fun z => Int32.not_le.mpr h3 (kL_iff.mp z).1)
    · have h4 : nI 122 < c := h4
      exact dg (fun z => Int32.not_le.mpr h4 (kL_iff.mp z).2)
    · have h3 : ¬ c < nI 97 := h3
      have h4 : ¬ nI 122 < c := h4
      rw [if_pos (kL_iff.mpr ⟨Int32.not_lt.mp h3, Int32.not_lt.mp h4⟩)] at hq
      exact hq
  · have h : c = nI 32 := h
    rw [if_pos (kB_iff.mpr h)] at hq
    exact hq
theorem TK.nxt (h : TK σ t n i) {v : Int32} (hlt : bg t n i < n) (hv : v = nI (i + 1)) : TK (mput σ 0 5 v) t n (i + 1) := by
  obtain ⟨h1, h2, h3, th, h4, h5, h6, h7, h8, h9, h10⟩ := h
  have : i ≠ th := by rintro rfl; omega
  exact ⟨h1, h2, h3, th, h4, h5, hv, by omega, h8, h9, h10⟩
theorem TK.at0 (h : TK σ t n i) : i ≤ 400 ∧ σ 0 5 = nI i ∧ σ 2 i = nI (bg t n i) ∧ σ 3 i = nI (te t n (bg t n i)) ∧ bg t n i ≤ n ∧ te t n (bg t n i) ≤ n ∧ n ≤ 400 ∧ bg t n i ≤ te t n (bg t n i) := by
  obtain ⟨h1, h2, h3, th, h4, h5, h6, h7, h8, h9, h10⟩ := h
  have hb := bg_le (t := t) (n := n) i
  have ht := te_le (t := t) hb
  refine ⟨by omega, h6, (h8 i h7).1, (h8 i h7).2, hb, ht, h1, ?_⟩
  by_cases e : bg t n i < n
  · exact Nat.le_of_lt (te_gt e)
  · unfold te; rw [if_neg e]; exact Nat.le_refl _
theorem c_wrongAt (h : TK σ t n i) (hq : Q (.inl (some (.int (nI (bg t n i))))) sh_8 σ) : mD (d + 1) 336 [.ref 0] sh_8 σ Q := by
  obtain ⟨h1, h2, h3, h4, h5, h6, h7, h8⟩ := h.at0
  refine ⟨rfl, fun X hX => ?_⟩
  refine hX _ _ _ _ _ _ _ ?_
  refine ⟨vin h2 (by omega) (by omega), ?_⟩
  refine qi ?_ hq
  show _ = σ 2 (σ 0 5).toNatClampNeg
  rw [clN h2 (by omega), h3]
theorem c_atEnd (h : TK σ t n i) (q1 : bg t n i = n → Q (.inl (some (.int (nI 1)))) sh_8 σ) (q0 : bg t n i < n → Q (.inl (some (.int (nI 0)))) sh_8 σ) : mD (d + 1) 337 [.ref 0] sh_8 σ Q := by
  obtain ⟨h1, h2, h3, th, h4, h5, h6, h7, h8, h9, h10⟩ := h
  refine ⟨rfl, fun X hX => ?_⟩
  refine hX _ _ _ _ _ _ _ ?_
  refine b_lt h6 h5 (by omega) (by omega) (fun h => ?_) (fun h => ?_)
  · refine hX _ _ _ _ _ _ _ ?_
    refine hX _ _ _ _ _ _ _ ?_
    exact ⟨Or.inl rfl, q0 (h9 i h)⟩
  · refine hX _ _ _ _ _ _ _ ?_
    have : i = th := by omega
    exact ⟨Or.inr rfl, q1 (by rw [this]; exact h10)⟩
theorem c_refuse (h : TK σ t n (i + 1)) (hq : ∀ σ', TK σ' t n i → Q (.inl (some (.int (nI 0)))) sh_8 σ') : mD (d + 1) 338 [.ref 0] sh_8 σ Q := by
  obtain ⟨h1, h2, h3, th, h4, h5, h6, h7, h8, h9, h10⟩ := h
  refine ⟨rfl, fun X hX => ?_⟩
  refine hX _ _ _ _ _ _ _ ?_
  refine ⟨Or.inl rfl, hq _ ⟨h1, h2, h3, th, h4, h5, ?_, by omega, h8, h9, h10⟩⟩
  show (if nI 0 < σ 0 5 - nI 1 then σ 0 5 - nI 1 else nI 0) = nI i
  rw [h6, nI_sub (by omega), Nat.add_sub_cancel]
  split
  · rfl
  · rename_i h
    rw [nI_ltI (by omega) (by omega)] at h
    rw [show i = 0 by omega]
theorem c_takesSign {c : Nat} {v : Int32} (hv : v = nI c) (h : TK σ t n i) (q1 : sgB t n (bg t n i) c = true → ∀ σ', TK σ' t n (i + 1) → Q (.inl (some (.int (nI 1)))) sh_8 σ') (q0 : ¬ sgB t n (bg t n i) c = true → Q (.inl (some (.int (nI 0)))) sh_8 σ) : mD (d + 1) 339 [.ref 0, .int v] sh_8 σ Q := by
  have hK := h
  obtain ⟨h1, h2, h3, th, h4, h5, h6, h7, h8, h9, h10⟩ := h
  refine ⟨rfl, fun X hX => ?_⟩
  refine hX _ _ _ _ _ _ _ ?_
  refine b_ge h6 h5 (by omega) (by omega) (fun h => ?_) (fun h => ?_)
  · refine hX _ _ _ _ _ _ _ ?_
    have : i = th := by omega
    exact ⟨Or.inl rfl, q0 (fun z => by have z1 := (sgB_iff.mp z).1; rw [this] at z1; omega)⟩
  · have hlt := h9 i h
    have e2 : σ 2 (σ 0 5).toNatClampNeg = nI (bg t n i) := by rw [clN h6 (by omega)]; exact (h8 i h7).1
    refine ⟨vin h6 (by omega) (by omega), ?_⟩
    refine ⟨vin e2 (by omega) (by omega), ?_⟩
    have e3 : σ 1 (σ 2 (σ 0 5).toNatClampNeg).toNatClampNeg = t (bg t n i) := by rw [clN e2 (by omega)]; exact h3 _ hlt
    refine ⟨fun h11 => ?_, fun h11 => ?_⟩
    · have h11 : σ 1 (σ 2 (σ 0 5).toNatClampNeg).toNatClampNeg = v := h11
      rw [e3, hv] at h11
      refine hX _ _ _ _ _ _ _ ?_
      exact ⟨Or.inr rfl, q1 (sgB_iff.mpr ⟨hlt, h11⟩) _ (hK.nxt hlt (by rw [h6]; exact nI_1 i))⟩
    · have h11 : ¬ σ 1 (σ 2 (σ 0 5).toNatClampNeg).toNatClampNeg = v := h11
      rw [e3, hv] at h11
      refine hX _ _ _ _ _ _ _ ?_
      exact ⟨Or.inl rfl, q0 (fun z => h11 (sgB_iff.mp z).2)⟩
end TAP
