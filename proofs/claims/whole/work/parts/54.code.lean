/-! THE CLASS: the code of a law is written -/
def cat (ls : List lLn) : List Int32 := ls.flatMap (fun l => l.2.2)
theorem cat_snoc {ls : List lLn} {l : lLn} : cat (ls ++ [l]) = cat ls ++ l.2.2 := by
  unfold cat
  rw [List.flatMap_append]
  simp
/-- a law's block holds lines, and code behind the last -/
def LDr (σ : mSg) (ls : List lLn) (c : List Int32) : Prop := σ 0 0 = nI ls.length ∧ ls.length ≤ 12 ∧ σ 0 1 = nI (cat ls ++ c).length ∧ (∀ k x, (cat ls ++ c)[k]? = some x → σ 5 k = x) ∧ ∀ i l, ls[i]? = some l → σ 1 i = nI l.1 ∧ σ 2 i = l.2.1 ∧ σ 3 i = nI (cat (ls.take i)).length ∧ σ 4 i = nI ((cat (ls.take i)).length + l.2.2.length)
section EMT
variable {d : Nat} {σ : mSg} {Q : mPst} {ls : List lLn} {c : List Int32}
theorem c_lawClear (hq : ∀ σ', LDr σ' [] [] → Q (.inl none) sh_2 σ') : mD (d + 1) 255 [.ref 0] sh_2 σ Q := by
  refine ⟨rfl, fun X hX => ?_⟩
  refine hX _ _ _ _ _ _ _ ?_
  refine hq _ ⟨rfl, by simp, rfl, fun k x h => ?_, fun i l h => ?_⟩
  · simp [cat] at h
  · simp at h
theorem c_emit {o : Nat} {v w : Int32} (hw : w = nI o) (ho : o < 17) (h : LDr σ ls c) (hl : (cat ls ++ c).length < 400) (hq : ∀ σ', LDr σ' ls (c ++ [cw v o]) → Q (.inl none) sh_2 σ') : mD (d + 1) 256 [.ref 0, .int w, .int v] sh_2 σ Q := by
  subst hw
  obtain ⟨h1, h2, h3, h4, h5⟩ := h
  refine ⟨rfl, fun X hX => ?_⟩
  refine hX _ _ _ _ _ _ _ ?_
  refine ⟨fun h => absurd h (oN_ne (by omega)), fun _ => ?_⟩
  refine b_ge h3 (b := 400) rfl (by omega) (by omega) (fun h => by omega) (fun _ => ?_)
  refine ⟨vin h3 (by omega) (by omega), ?_⟩
  refine hX _ _ _ _ _ _ _ ?_
  refine hq _ ⟨h1, h2, ?_, fun k x h => ?_, h5⟩
  · show σ 0 1 + nI 1 = _
    rw [h3, ← List.append_assoc, List.length_append (bs := [cw v o])]
    exact nI_1 _
  · show upd (σ 5) (σ 0 1).toNatClampNeg (cw v o) k = x
    rw [clN h3 (by omega)]
    rw [← List.append_assoc] at h
    by_cases e : k < (cat ls ++ c).length
    · rw [upd_off (by omega)]
      rw [List.getElem?_append_left e] at h
      exact h4 k x h
    · rw [List.getElem?_append_right (by omega)] at h
      have hk : k - (cat ls ++ c).length = 0 := by
        by_cases e2 : k - (cat ls ++ c).length = 0
        · exact e2
        · rw [List.getElem?_eq_none (by simp only [List.length_singleton]; omega)] at h
          cases h
      rw [hk] at h
      cases h
      have ek : k = (cat ls ++ c).length := by omega
      rw [ek, upd_at]
theorem c_emitU {o v : Int32} (h : ∃ u, u ≤ 400 ∧ σ 0 1 = nI u) (hq : ∀ σ', (∃ u, u ≤ 400 ∧ σ' 0 1 = nI u) → Q (.inl none) sh_2 σ') : mD (d + 1) 256 [.ref 0, .int o, .int v] sh_2 σ Q := by
  obtain ⟨u, h1, h2⟩ := h
  refine ⟨rfl, fun X hX => ?_⟩
  have out : ∀ σ', (∃ u, u ≤ 400 ∧ σ' 0 1 = nI u) → X 39 [none, none, none] [] sh_2 σ' 0 0 := by
    intro σ' h
    refine hX _ _ _ _ _ _ _ ?_
    exact hq σ' h
  refine hX _ _ _ _ _ _ _ ?_
  refine ⟨fun h => out σ ⟨u, h1, h2⟩, fun _ => ?_⟩
  refine b_ge h2 (b := 400) rfl (by omega) (by omega) (fun h => out σ ⟨u, h1, h2⟩) (fun h => ?_)
  refine ⟨vin h2 (by omega) (by omega), ?_⟩
  exact out _ ⟨u + 1, by omega, by show σ 0 1 + nI 1 = _; rw [h2]; exact nI_1 u⟩
theorem c_addLine {k a : Int32} {kn : Nat} {b : Int32} (hk : k = nI kn) (hb : b = nI (cat ls).length) (h : LDr σ ls c) (hl : ls.length < 12) (hc : (cat ls ++ c).length ≤ 400) (hq : ∀ σ', LDr σ' (ls ++ [(kn, a, c)]) [] → Q (.inl none) sh_2 σ') : mD (d + 1) 257 [.ref 0, .int k, .int a, .int b] sh_2 σ Q := by
  obtain ⟨h1, h2, h3, h4, h5⟩ := h
  refine ⟨rfl, fun X hX => ?_⟩
  refine hX _ _ _ _ _ _ _ ?_
  refine b_lt h1 (b := 0) rfl (by omega) (by omega) (fun h => by omega) (fun _ => ?_)
  refine b_ge h1 (b := 12) rfl (by omega) (by omega) (fun h => by omega) (fun _ => ?_)
  refine ⟨vin h1 (by omega) (by omega), ?_⟩
  refine ⟨vin h1 (by omega) (by omega), ?_⟩
  refine ⟨vin h1 (by omega) (by omega), ?_⟩
  refine ⟨vin h1 (by omega) (by omega), ?_⟩
  refine hX _ _ _ _ _ _ _ ?_
  refine hq _ ⟨?_, ?_, ?_, fun q x h => ?_, fun i l h => ?_⟩
  · show σ 0 0 + nI 1 = _
    rw [h1, List.length_append]
    exact nI_1 _
  · rw [List.length_append]; exact hl
  · show σ 0 1 = _
    rw [h3, cat_snoc, List.append_nil]
  · rw [cat_snoc, List.append_nil] at h
    exact h4 q x h
  · show upd (σ 1) (σ 0 0).toNatClampNeg k i = _ ∧ upd (σ 2) (σ 0 0).toNatClampNeg a i = _ ∧ upd (σ 3) (σ 0 0).toNatClampNeg b i = _ ∧ upd (σ 4) (σ 0 0).toNatClampNeg (σ 0 1) i = _
    rw [clN h1 (by omega)]
    by_cases e : i < ls.length
    · rw [List.getElem?_append_left e] at h
      rw [upd_off (by omega), upd_off (by omega), upd_off (by omega), upd_off (by omega), List.take_append_of_le_length (by omega)]
      exact h5 i l h
    · rw [List.getElem?_append_right (by omega)] at h
      have hi : i - ls.length = 0 := by
        by_cases e2 : i - ls.length = 0
        · exact e2
        · rw [List.getElem?_eq_none (by simp only [List.length_singleton]; omega)] at h
          cases h
      rw [hi] at h
      cases h
      have ei : i = ls.length := by omega
      rw [ei, upd_at, upd_at, upd_at, upd_at, List.take_left, hk, hb, h3, List.length_append]
      exact ⟨rfl, rfl, rfl, rfl⟩
end EMT
/-! the reader's world -/
def RTw (σ : mSg) (t : Nat → Int32) (n i : Nat) : Prop := TK (fun j => σ (mgl [(1, 4)] j)) t n i
def RLw (σ : mSg) (ls : List lLn) (c : List Int32) : Prop := LDr (fun j => σ (mgl [(14, 7)] j)) ls c
def RUw (σ : mSg) : Prop := ∃ u, u ≤ 400 ∧ σ 14 1 = nI u
section RDW
variable {t : Nat → Int32} {n i : Nat} {σ σ2 : mSg} {ls : List lLn} {c : List Int32}
theorem RTw.of (h : TK σ2 t n i) : RTw (mback [(1, 4)] σ σ2) t n i := h
theorem RTw.keep (h : RTw σ t n i) : RTw (mback [(14, 7)] σ σ2) t n i := h
theorem RLw.of (h : LDr σ2 ls c) : RLw (mback [(14, 7)] σ σ2) ls c := h
theorem RLw.keep (h : RLw σ ls c) : RLw (mback [(1, 4)] σ σ2) ls c := h
theorem RLw.u (h : RLw σ ls c) (hl : (cat ls ++ c).length ≤ 400) : RUw σ := ⟨_, hl, h.2.2.1⟩
theorem RUw.keep (h : RUw σ) : RUw (mback [(1, 4)] σ σ2) := h
theorem RUw.of (h : ∃ u, u ≤ 400 ∧ σ2 0 1 = nI u) : RUw (mback [(14, 7)] σ σ2) := h
end RDW
