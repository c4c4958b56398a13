/-! THE LAW'S GRAMMAR: what of a text is read, and the code of it -/
def cw (v : Int32) (op : Nat) : Int32 := (v <<< (nI 5 &&& 31)) ||| nI op
def jn (o : Nat) (l r : Int32) : Int32 := match o with
  | 12 => l + r
  | 13 => if l < r then nI 1 else nI 0
  | 14 => if r < l then nI 1 else nI 0
  | 15 => l &&& r
  | _ => l ||| r
/-- code c says v, by facts ρ, with so much room on the stack -/
def Wf (ρ : Nat → Int32) (c : List Int32) (v : Int32) (k : Nat) : Prop := ∀ R : List Int32 → Int32 → Nat → Prop,
  (∀ j, j < 1000 → R [cw (nI j) 0] (nI j) 1) →
  (∀ o, 1 ≤ o → o ≤ 10 → R [cw (nI 0) o] (ρ o) 1) →
  (∀ c v k, R c v k → R (c ++ [cw (nI 0) 11]) (nI 1 - v) k) →
  (∀ o c1 v1 k1 c2 v2 k2, 12 ≤ o → o ≤ 16 → R c1 v1 k1 → R c2 v2 k2 → R (c1 ++ c2 ++ [cw (nI 0) o]) (jn o v1 v2) (max k1 (k2 + 1))) →
  (∀ c v k k', R c v k → k ≤ k' → R c v k') → R c v k
section WF
variable {ρ : Nat → Int32} {c c1 c2 : List Int32} {v v1 v2 : Int32} {k k1 k2 : Nat}
theorem Wf.num {j : Nat} (h : j < 1000) : Wf ρ [cw (nI j) 0] (nI j) 1 := fun _ h1 _ _ _ _ => h1 j h
theorem Wf.fact {o : Nat} (h : 1 ≤ o) (h2 : o ≤ 10) : Wf ρ [cw (nI 0) o] (ρ o) 1 := fun _ _ q _ _ _ => q o h h2
theorem Wf.not (h : Wf ρ c v k) : Wf ρ (c ++ [cw (nI 0) 11]) (nI 1 - v) k := fun R h1 h2 h3 h4 h5 => h3 _ _ _ (h R h1 h2 h3 h4 h5)
theorem Wf.bin {o : Nat} (ho : 12 ≤ o) (ho2 : o ≤ 16) (h : Wf ρ c1 v1 k1) (g : Wf ρ c2 v2 k2) (hk : max k1 (k2 + 1) ≤ k) : Wf ρ (c1 ++ c2 ++ [cw (nI 0) o]) (jn o v1 v2) k := fun R h1 h2 h3 h4 h5 => h5 _ _ _ _ (h4 o _ _ _ _ _ _ ho ho2 (h R h1 h2 h3 h4 h5) (g R h1 h2 h3 h4 h5)) hk
theorem Wf.wk (h : Wf ρ c v k1) (hk : k1 ≤ k) : Wf ρ c v k := fun R h1 h2 h3 h4 h5 => h5 _ _ _ _ (h R h1 h2 h3 h4 h5) hk
end WF
abbrev pR : Type := (Nat × List Int32) ⊕ Nat
section GRM
variable (t : Nat → Int32) (n : Nat)
def pW (b : Nat) : List (List Nat × Nat) → Option Nat
  | [] => none
  | (w, k) :: l => if wB t n b w = true then some k else pW b l
def pPart (b : Nat) : pR := if nB t n b (nI 0) (nI 999) = true then .inl (nx t n b, [cw (nV t n b) 0]) else
  match pW t n b [([115, 116, 114, 101, 101, 116], 1), ([120], 2), ([121], 3), ([119, 97, 105, 116, 115], 4), ([108, 111, 97, 100, 115], 5), ([116, 105, 108, 108], 6), ([100, 97, 121], 7)] with
  | some k => .inl (nx t n b, [cw (nI 0) k])
  | none => .inr b
def pLoop (sep : Nat → Bool) (A : Nat → pR) (op : Nat) : Nat → Nat → List Int32 → pR
  | 0, b, c => .inl (b, c)
  | f + 1, b, c => if sep b = true then (match A (nx t n b) with
    | .inl (b', c') => pLoop sep A op f b' (c ++ c' ++ [cw (nI 0) op])
    | .inr e => .inr e) else .inl (b, c)
def pSeq (sep : Nat → Bool) (A : Nat → pR) (op : Nat) (b : Nat) : pR := match A b with
  | .inl (b', c) => pLoop t n sep A op 401 b' c
  | .inr e => .inr e
def pSum (b : Nat) : pR := pSeq t n (fun b => sgB t n b 43) (pPart t n) 12 b
def pCmp (o : Nat) (b : Nat) (c : List Int32) : pR := match pSum t n (nx t n b) with
  | .inl (b', c') => .inl (b', c ++ c' ++ [cw (nI 0) o])
  | .inr e => .inr e
def pPlain (b : Nat) : pR := if wB t n b [115, 109, 111, 107, 101] = true then .inl (nx t n b, [cw (nI 0) 8])
  else if wB t n b [102, 97, 114] = true then .inl (nx t n b, [cw (nI 0) 9])
  else if wB t n b [102, 117, 108, 108] = true then .inl (nx t n b, [cw (nI 0) 10])
  else match pSum t n b with
  | .inl (b', c) => if sgB t n b' 60 = true then pCmp t n 13 b' c else if sgB t n b' 62 = true then pCmp t n 14 b' c else .inr b'
  | .inr e => .inr e
def pEvery (A : Nat → pR) (b : Nat) : pR := pSeq t n (fun b => wB t n b [97, 110, 100]) A 15 b
def pSome (A : Nat → pR) (b : Nat) : pR := pSeq t n (fun b => wB t n b [111, 114]) (pEvery t n A) 16 b
def pNot (A : Nat → pR) (b : Nat) : pR := match A (nx t n b) with
  | .inl (b', c) => .inl (b', c ++ [cw (nI 0) 11])
  | .inr e => .inr e
def pPar (A : Nat → pR) (b : Nat) : pR := match pSome t n A (nx t n b) with
  | .inl (b', c) => if sgB t n b' 41 = true then .inl (nx t n b', c) else .inr b'
  | .inr e => .inr e
def pAtom : Nat → Nat → pR
  | 0, b => if wB t n b [110, 111, 116] = true then .inr b else if sgB t n b 40 = true then .inr b else pPlain t n b
  | D + 1, b => if wB t n b [110, 111, 116] = true then pNot t n (pAtom D) b else if sgB t n b 40 = true then pPar t n (pAtom D) b else pPlain t n b
/-- what holds of all that is read: it goes on, its code is no longer than its text, and says something -/
def Good (k : Nat) (A : Nat → pR) : Prop := ∀ b, b ≤ n → sk t n b = b → (∀ b' c, A b = .inl (b', c) → b < b' ∧ b' ≤ n ∧ sk t n b' = b' ∧ c.length + b ≤ b' ∧ ∀ ρ, ∃ v, Wf ρ c v k) ∧ (∀ e, A b = .inr e → e ≤ n)
end GRM
section GD
variable {t : Nat → Int32} {n : Nat}
theorem pW_some {b : Nat} : ∀ {l : List (List Nat × Nat)} {k : Nat}, pW t n b l = some k → ∃ w, (w, k) ∈ l ∧ wB t n b w = true
  | [], k, h => by cases h
  | (w, j) :: l, k, h => by
    unfold pW at h
    split at h
    · rename_i h1
      cases h
      exact ⟨w, List.mem_cons_self, h1⟩
    · obtain ⟨w2, h2, h3⟩ := pW_some h
      exact ⟨w2, List.mem_cons_of_mem _ h2, h3⟩
theorem gd_part : Good t n 1 (pPart t n) := by
  intro b hb hs
  unfold pPart
  split
  · rename_i h
    obtain ⟨h1, h2⟩ := nB_lt h
    obtain ⟨j, -, h3, h4⟩ := nB_val h (by omega) (by omega)
    refine ⟨fun b' c e => ?_, fun e h => by cases h⟩
    cases e
    refine ⟨nx_gt h1, nx_le hb, nx_sk, ?_, fun ρ => ⟨nI j, ?_⟩⟩
    · have := nx_gt (t := t) h1
      simp only [List.length_singleton]; omega
    · rw [h4]; exact Wf.num (by omega)
  · split
    · rename_i k hk
      obtain ⟨w, h1, h2⟩ := pW_some hk
      have h3 : 0 < w.length ∧ 1 ≤ k ∧ k ≤ 10 := by
        simp only [List.mem_cons, Prod.mk.injEq, List.not_mem_nil, or_false] at h1
        rcases h1 with ⟨rfl, rfl⟩ | ⟨rfl, rfl⟩ | ⟨rfl, rfl⟩ | ⟨rfl, rfl⟩ | ⟨rfl, rfl⟩ | ⟨rfl, rfl⟩ | ⟨rfl, rfl⟩ <;> exact ⟨by decide, by omega, by omega⟩
      obtain ⟨h4, -⟩ := wB_lt h2 h3.1
      refine ⟨fun b' c e => ?_, fun e h => by cases h⟩
      cases e
      refine ⟨nx_gt h4, nx_le hb, nx_sk, ?_, fun ρ => ⟨ρ k, Wf.fact h3.2.1 h3.2.2⟩⟩
      have := nx_gt (t := t) h4
      simp only [List.length_singleton]; omega
    · exact ⟨fun b' c e => (by cases e), fun e h => by cases h; exact hb⟩
theorem gd_loop {sep : Nat → Bool} {A : Nat → pR} {op k kA : Nat} (hA : Good t n kA A) (hsep : ∀ b, sep b = true → b < n) (h1 : 12 ≤ op) (h2 : op ≤ 16) (hk : kA + 1 ≤ k) : ∀ f b c, b ≤ n → sk t n b = b → (∀ ρ, ∃ v, Wf ρ c v k) → (∀ b' c', pLoop t n sep A op f b c = .inl (b', c') → b ≤ b' ∧ b' ≤ n ∧ sk t n b' = b' ∧ c'.length + b ≤ c.length + b' ∧ ∀ ρ, ∃ v, Wf ρ c' v k) ∧ (∀ e, pLoop t n sep A op f b c = .inr e → e ≤ n)
  | 0, b, c, hb, hs, hc => by
    refine ⟨fun b' c' e => ?_, fun e h => by cases h⟩
    cases e
    exact ⟨Nat.le_refl _, hb, hs, Nat.le_refl _, hc⟩
  | f + 1, b, c, hb, hs, hc => by
    unfold pLoop
    split
    · rename_i hsp
      have hlt := hsep b hsp
      have hg := hA (nx t n b) (nx_le hb) nx_sk
      have hgt := nx_gt (t := t) hlt
      split
      · rename_i b1 c1 e1
        obtain ⟨a1, a2, a3, a4, a5⟩ := hg.1 b1 c1 e1
        obtain ⟨i1, i2⟩ := gd_loop hA hsep h1 h2 hk f b1 (c ++ c1 ++ [cw (nI 0) op]) a2 a3 (fun ρ => by
          obtain ⟨v, hv⟩ := hc ρ
          obtain ⟨v1, hv1⟩ := a5 ρ
          exact ⟨jn op v v1, Wf.bin h1 h2 hv hv1 (by omega)⟩)
        refine ⟨fun b' c' e => ?_, i2⟩
        obtain ⟨j1, j2, j3, j4, j5⟩ := i1 b' c' e
        refine ⟨by omega, j2, j3, ?_, j5⟩
        simp only [List.length_append, List.length_singleton] at j4
        omega
      · rename_i e e1
        refine ⟨fun b' c' e => (by cases e), fun e2 h => ?_⟩
        cases h
        exact hg.2 e e1
    · refine ⟨fun b' c' e => ?_, fun e h => by cases h⟩
      cases e
      exact ⟨Nat.le_refl _, hb, hs, Nat.le_refl _, hc⟩
theorem gd_seq {sep : Nat → Bool} {A : Nat → pR} {op k kA : Nat} (hA : Good t n kA A) (hsep : ∀ b, sep b = true → b < n) (h1 : 12 ≤ op) (h2 : op ≤ 16) (hk : kA + 1 ≤ k) : Good t n k (pSeq t n sep A op) := by
  intro b hb hs
  unfold pSeq
  have hg := hA b hb hs
  split
  · rename_i b1 c1 e1
    obtain ⟨a1, a2, a3, a4, a5⟩ := hg.1 b1 c1 e1
    obtain ⟨i1, i2⟩ := gd_loop hA hsep h1 h2 hk 401 b1 c1 a2 a3 (fun ρ => by
      obtain ⟨v, hv⟩ := a5 ρ
      exact ⟨v, hv.wk (by omega)⟩)
    refine ⟨fun b' c' e => ?_, i2⟩
    obtain ⟨j1, j2, j3, j4, j5⟩ := i1 b' c' e
    exact ⟨by omega, j2, j3, by omega, j5⟩
  · rename_i e e1
    refine ⟨fun b' c' e => (by cases e), fun e2 h => ?_⟩
    cases h
    exact hg.2 e e1
theorem sgB_sep {c : Nat} : ∀ b, sgB t n b c = true → b < n := fun _ h => (sgB_iff.mp h).1
theorem wB_sep {w : List Nat} (hw : 0 < w.length) : ∀ b, wB t n b w = true → b < n := fun _ h => (wB_lt h hw).1
theorem gd_sum : Good t n 2 (pSum t n) := gd_seq gd_part sgB_sep (by omega) (by omega) (by omega)
theorem gd_every {k : Nat} {A : Nat → pR} (hA : Good t n k A) : Good t n (k + 1) (pEvery t n A) := gd_seq hA (wB_sep (by decide)) (by omega) (by omega) (by omega)
theorem gd_some {k : Nat} {A : Nat → pR} (hA : Good t n k A) : Good t n (k + 2) (pSome t n A) := gd_seq (gd_every hA) (wB_sep (by decide)) (by omega) (by omega) (by omega)
theorem gd_word {b o : Nat} {w : List Nat} (hw : 0 < w.length) (hb : b ≤ n) (h : wB t n b w = true) (h1 : 1 ≤ o) (h2 : o ≤ 10) : (∀ b' c, (Sum.inl (nx t n b, [cw (nI 0) o]) : pR) = .inl (b', c) → b < b' ∧ b' ≤ n ∧ sk t n b' = b' ∧ c.length + b ≤ b' ∧ ∀ ρ, ∃ v, Wf ρ c v 3) ∧ (∀ e, (Sum.inl (nx t n b, [cw (nI 0) o]) : pR) = .inr e → e ≤ n) := by
  refine ⟨fun b' c e => ?_, fun e h => by cases h⟩
  cases e
  have := nx_gt (t := t) (wB_lt h hw).1
  exact ⟨this, nx_le hb, nx_sk, by simp only [List.length_singleton]; omega, fun ρ => ⟨ρ o, (Wf.fact h1 h2).wk (by omega)⟩⟩
theorem gd_cmp {o b : Nat} {c : List Int32} (h1 : 12 ≤ o) (h2 : o ≤ 16) (hb : b < n) (hc : ∀ ρ, ∃ v, Wf ρ c v 2) : (∀ b' c', pCmp t n o b c = .inl (b', c') → b < b' ∧ b' ≤ n ∧ sk t n b' = b' ∧ c'.length + b ≤ c.length + b' ∧ ∀ ρ, ∃ v, Wf ρ c' v 3) ∧ (∀ e, pCmp t n o b c = .inr e → e ≤ n) := by
  have hg := gd_sum (nx t n b) (nx_le (by omega)) nx_sk
  have hgt := nx_gt (t := t) hb
  unfold pCmp
  split
  · rename_i b1 c1 e1
    obtain ⟨a1, a2, a3, a4, a5⟩ := hg.1 b1 c1 e1
    refine ⟨fun b' c' e => ?_, fun e h => by cases h⟩
    cases e
    refine ⟨by omega, a2, a3, ?_, fun ρ => ?_⟩
    · simp only [List.length_append, List.length_singleton]; omega
    · obtain ⟨v, hv⟩ := hc ρ
      obtain ⟨v1, hv1⟩ := a5 ρ
      exact ⟨_, Wf.bin h1 h2 hv hv1 (by omega)⟩
  · rename_i e e1
    refine ⟨fun b' c' e => (by cases e), fun e2 h => ?_⟩
    cases h
    exact hg.2 e e1
theorem gd_plain : Good t n 3 (pPlain t n) := by
  intro b hb hs
  unfold pPlain
  split
  · rename_i h; exact gd_word (by decide) hb h (by omega) (by omega)
  · split
    · rename_i h; exact gd_word (by decide) hb h (by omega) (by omega)
    · split
      · rename_i h; exact gd_word (by decide) hb h (by omega) (by omega)
      · have hg := gd_sum b hb hs
        split
        · rename_i b1 c1 e1
          obtain ⟨a1, a2, a3, a4, a5⟩ := hg.1 b1 c1 e1
          split
          · rename_i h
            obtain ⟨i1, i2⟩ := gd_cmp (o := 13) (by omega) (by omega) (sgB_sep _ h) a5
            refine ⟨fun b' c' e => ?_, i2⟩
            obtain ⟨j1, j2, j3, j4, j5⟩ := i1 b' c' e
            exact ⟨by omega, j2, j3, by omega, j5⟩
          · split
            · rename_i h
              obtain ⟨i1, i2⟩ := gd_cmp (o := 14) (by omega) (by omega) (sgB_sep _ h) a5
              refine ⟨fun b' c' e => ?_, i2⟩
              obtain ⟨j1, j2, j3, j4, j5⟩ := i1 b' c' e
              exact ⟨by omega, j2, j3, by omega, j5⟩
            · exact ⟨fun b' c e => (by cases e), fun e h => by cases h; exact a2⟩
        · rename_i e e1
          refine ⟨fun b' c' e => (by cases e), fun e2 h => ?_⟩
          cases h
          exact hg.2 e e1
theorem gd_atom : ∀ D, Good t n (3 + 2 * D) (pAtom t n D)
  | 0 => by
    intro b hb hs
    unfold pAtom
    split
    · exact ⟨fun b' c e => (by cases e), fun e h => by cases h; exact hb⟩
    · split
      · exact ⟨fun b' c e => (by cases e), fun e h => by cases h; exact hb⟩
      · exact gd_plain b hb hs
  | D + 1 => by
    have hA := gd_atom D
    intro b hb hs
    unfold pAtom
    split
    · rename_i hw
      have hlt := wB_sep (by decide) _ hw
      have hgt := nx_gt (t := t) hlt
      have hg := hA (nx t n b) (nx_le hb) nx_sk
      unfold pNot
      split
      · rename_i b1 c1 e1
        obtain ⟨a1, a2, a3, a4, a5⟩ := hg.1 b1 c1 e1
        refine ⟨fun b' c' e => ?_, fun e h => by cases h⟩
        cases e
        refine ⟨by omega, a2, a3, ?_, fun ρ => ?_⟩
        · simp only [List.length_append, List.length_singleton]; omega
        · obtain ⟨v, hv⟩ := a5 ρ
          exact ⟨_, hv.not.wk (by omega)⟩
      · rename_i e e1
        refine ⟨fun b' c' e => (by cases e), fun e2 h => ?_⟩
        cases h
        exact hg.2 e e1
    · split
      · rename_i hw
        have hlt := sgB_sep _ hw
        have hgt := nx_gt (t := t) hlt
        have hg := gd_some hA (nx t n b) (nx_le hb) nx_sk
        unfold pPar
        split
        · rename_i b1 c1 e1
          obtain ⟨a1, a2, a3, a4, a5⟩ := hg.1 b1 c1 e1
          split
          · rename_i h2
            have hgt2 := nx_gt (t := t) (sgB_sep _ h2)
            refine ⟨fun b' c' e => ?_, fun e h => by cases h⟩
            cases e
            refine ⟨by omega, nx_le a2, nx_sk, by omega, fun ρ => ?_⟩
            obtain ⟨v, hv⟩ := a5 ρ
            exact ⟨_, hv.wk (by omega)⟩
          · exact ⟨fun b' c e => (by cases e), fun e h => by cases h; exact a2⟩
        · rename_i e e1
          refine ⟨fun b' c' e => (by cases e), fun e2 h => ?_⟩
          cases h
          exact hg.2 e e1
      · obtain ⟨i1, i2⟩ := gd_plain (t := t) b hb hs
        refine ⟨fun b' c' e => ?_, i2⟩
        obtain ⟨j1, j2, j3, j4, j5⟩ := i1 b' c' e
        refine ⟨j1, j2, j3, j4, fun ρ => ?_⟩
        obtain ⟨v, hv⟩ := j5 ρ
        exact ⟨v, hv.wk (by omega)⟩
end GD
