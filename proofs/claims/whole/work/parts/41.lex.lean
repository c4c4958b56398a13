/-! BRANCHES by numbers -/
section BRN
variable {x y : Int32} {a b : Nat} {t f : Prop}
theorem b_eq (hx : x = nI a) (hy : y = nI b) (ha : a < 2 ^ 31) (hb : b < 2 ^ 31) (h1 : a = b → t) (h2 : a ≠ b → f) : (x = y → t) ∧ (¬ x = y → f) := by
  subst hx; subst hy
  exact ⟨fun h => h1 ((nI_eq ha hb).mp h), fun h => h2 (fun z => h ((nI_eq ha hb).mpr z))⟩
theorem b_ne (hx : x = nI a) (hy : y = nI b) (ha : a < 2 ^ 31) (hb : b < 2 ^ 31) (h1 : a ≠ b → t) (h2 : a = b → f) : (¬ x = y → t) ∧ (x = y → f) := by
  subst hx; subst hy
  exact ⟨fun h => h1 (fun z => h ((nI_eq ha hb).mpr z)), fun h => h2 ((nI_eq ha hb).mp h)⟩
theorem b_lt (hx : x = nI a) (hy : y = nI b) (ha : a < 2 ^ 31) (hb : b < 2 ^ 31) (h1 : a < b → t) (h2 : b ≤ a → f) : (x < y → t) ∧ (¬ x < y → f) := by
  subst hx; subst hy
  exact ⟨fun h => h1 ((nI_ltI ha hb).mp h), fun h => h2 (Nat.not_lt.mp (fun z => h ((nI_ltI ha hb).mpr z)))⟩
theorem b_ge (hx : x = nI a) (hy : y = nI b) (ha : a < 2 ^ 31) (hb : b < 2 ^ 31) (h1 : b ≤ a → t) (h2 : a < b → f) : (y ≤ x → t) ∧ (¬ y ≤ x → f) := by
  subst hx; subst hy
  exact ⟨fun h => h1 ((nI_leI hb ha).mp h), fun h => h2 (Nat.not_le.mp (fun z => h ((nI_leI hb ha).mpr z)))⟩
theorem b_gt (hx : x = nI a) (hy : y = nI b) (ha : a < 2 ^ 31) (hb : b < 2 ^ 31) (h1 : b < a → t) (h2 : a ≤ b → f) : (y < x → t) ∧ (¬ y < x → f) := by
  subst hx; subst hy
  exact ⟨fun h => h1 ((nI_ltI hb ha).mp h), fun h => h2 (Nat.not_lt.mp (fun z => h ((nI_ltI hb ha).mpr z)))⟩
theorem b_le (hx : x = nI a) (hy : y = nI b) (ha : a < 2 ^ 31) (hb : b < 2 ^ 31) (h1 : a ≤ b → t) (h2 : b < a → f) : (x ≤ y → t) ∧ (¬ x ≤ y → f) := by
  subst hx; subst hy
  exact ⟨fun h => h1 ((nI_leI ha hb).mp h), fun h => h2 (Nat.not_le.mp (fun z => h ((nI_leI ha hb).mpr z)))⟩
end BRN
theorem mslen_of {g : Bool} {r : Nat} {K : Int32 → Prop} {w : List Nat} (hg : g = true) (hw : mstr (r - 1000) = w) (hne : 0 < w.length) (h : K (nI w.length)) : mslen g r K := by
  subst hg
  unfold mslen
  rw [hw]
  cases w with
  | nil => exact absurd hne (by simp)
  | cons z cs => exact h
theorem mschr_of {g : Bool} {r k : Nat} {x : Int32} {K : Int32 → Prop} {w : List Nat} (hg : g = true) (hw : mstr (r - 1000) = w) (hx : x = nI k) (hk : k < w.length) (hl : w.length < 100) (h : K (nI (w.getD k 0))) : mschr g r x K := by
  subst hg
  subst hx
  unfold mschr
  rw [hw]
  cases w with
  | nil => exact absurd hk (by simp)
  | cons z cs => exact ⟨vp_in_nI hk (by omega), by rw [nI_clamp (by omega)]; exact h⟩
theorem mt {b : Bool} {P : Prop} (hb : b = true) (h : P) : (match b with | true => P | false => False) := by
  subst hb
  exact h
theorem ok_call {x y z w : Bool} (hx : x = true) (hy : y = true) (hz : z = true) (hw : w = true) : (x && ((y && z) && w)) = true := by
  subst hx; subst hy; subst hz; subst hw
  rfl
theorem ok_call2 {y z w : Bool} (hy : y = true) (hz : z = true) (hw : w = true) : ((y && z) && w) = true := by
  subst hy; subst hz; subst hw
  rfl
/-! THE MODEL: it reads a text -/
/-- the text that is read -/
def TX (σ0 : mSg) (t : Nat → Int32) (n : Nat) : Prop := σ0 0 10 = nI n ∧ n ≤ 400 ∧ ((σ0 0 9 = -(nI 1) ∧ ∀ k, k < n → σ0 5 k = t k) ∨ (σ0 0 9 = nI 423 ∧ ∀ k, k < n → σ0 1 (423 + k) = t k))
/-- as ahead, but for where it reads, what is wrong, and how deep -/
def PS (σ0 σ : mSg) (p : Nat) (f : Int32) (dp : Nat) : Prop := (∀ c k, c ≠ 0 ∨ (k ≠ 11 ∧ k ≠ 12 ∧ k ≠ 13) → σ c k = σ0 c k) ∧ σ 0 11 = nI p ∧ σ 0 12 = f ∧ σ 0 13 = nI dp
theorem PS.at1 {σ0 σ : mSg} {p q dp : Nat} {f v : Int32} (h : PS σ0 σ p f dp) (hv : v = nI q) : PS σ0 (mput σ 0 11 v) q f dp := by
  refine ⟨fun c k hc => ?_, ?_, ?_, ?_⟩
  · rw [← h.1 c k hc]
    by_cases e : c = 0
    · subst e; rw [mput_eq, upd_off (by omega)]
    · rw [mput_ne e]
  · rw [mput_eq, upd_at, hv]
  · rw [mput_eq, upd_off (by omega)]; exact h.2.2.1
  · rw [mput_eq, upd_off (by omega)]; exact h.2.2.2
theorem PS.flt {σ0 σ : mSg} {p dp : Nat} {f v : Int32} (h : PS σ0 σ p f dp) : PS σ0 (mput σ 0 12 v) p v dp := by
  refine ⟨fun c k hc => ?_, ?_, ?_, ?_⟩
  · rw [← h.1 c k hc]
    by_cases e : c = 0
    · subst e; rw [mput_eq, upd_off (by omega)]
    · rw [mput_ne e]
  · rw [mput_eq, upd_off (by omega)]; exact h.2.1
  · rw [mput_eq, upd_at]
  · rw [mput_eq, upd_off (by omega)]; exact h.2.2.2
theorem PS.dp1 {σ0 σ : mSg} {p dp q : Nat} {f v : Int32} (h : PS σ0 σ p f dp) (hv : v = nI q) : PS σ0 (mput σ 0 13 v) p f q := by
  refine ⟨fun c k hc => ?_, ?_, ?_, ?_⟩
  · rw [← h.1 c k hc]
    by_cases e : c = 0
    · subst e; rw [mput_eq, upd_off (by omega)]
    · rw [mput_ne e]
  · rw [mput_eq, upd_off (by omega)]; exact h.2.1
  · rw [mput_eq, upd_off (by omega)]; exact h.2.2.1
  · rw [mput_eq, upd_at, hv]
theorem PS.en {σ0 σ : mSg} {p dp n : Nat} {f : Int32} {t : Nat → Int32} (h : PS σ0 σ p f dp) (hT : TX σ0 t n) : σ 0 10 = nI n := by rw [h.1 0 10 (by omega)]; exact hT.1
section LEX
variable {d n p dp : Nat} {σ0 σ : mSg} {t : Nat → Int32} {f : Int32} {Q : mPst}
theorem g_letter {k : Nat} {v : Int32} (hT : TX σ0 t n) (hP : PS σ0 σ p f dp) (hv : v = nI k) (hk : k < n) (hq : Q (.inl (some (.int (t k)))) sh_10 σ) : mD (d + 1) 97 [.ref 0, .int v] sh_10 σ Q := by
  subst hv
  have e9 : σ 0 9 = σ0 0 9 := hP.1 0 9 (by omega)
  have hn := hT.2.1
  refine ⟨rfl, fun X hX => ?_⟩
  refine hX _ _ _ _ _ _ _ ?_
  rcases hT.2.2 with ⟨h1, h2⟩ | ⟨h1, h2⟩
  · refine ⟨fun h => absurd (e9.trans h1) h, fun _ => ?_⟩
    refine ⟨vp_in_nI (by omega) (by omega), ?_⟩
    refine hX _ _ _ _ _ _ _ ?_
    refine qi ?_ hq
    show t k = σ 5 (nI k).toNatClampNeg
    rw [nI_clamp (by omega), hP.1 5 k (by omega), h2 k hk]
  · refine ⟨fun _ => ?_, fun h => ?_⟩
    · refine hX _ _ _ _ _ _ _ ?_
      have e : σ 0 9 + nI k = nI (423 + k) := by rw [e9, h1, nI_add]
      refine ⟨vin e (by omega) (by omega), ?_⟩
      refine hX _ _ _ _ _ _ _ ?_
      refine qi ?_ hq
      show t k = σ 1 (σ 0 9 + nI k).toNatClampNeg
      rw [clN e (by omega), hP.1 1 _ (by omega), h2 k hk]
    · have h : σ 0 9 = -(nI 1) := h
      rw [e9, h1] at h
      exact absurd h (oN_ne (by omega))
theorem g_skip (hT : TX σ0 t n) (hP : PS σ0 σ p f dp) (hp : p ≤ n + 20) (hq : ∀ σ', PS σ0 σ' (sk t n p) f dp → Q (.inl none) sh_10 σ') : mD (d + 2) 98 [.ref 0] sh_10 σ Q := by
  have hn := hT.2.1
  refine ⟨rfl, fun X hX => ?_⟩
  have loop : ∀ j p σ, n - p = j → p ≤ n + 20 → PS σ0 σ p f dp → (∀ σ', PS σ0 σ' (sk t n p) f dp → Q (.inl none) sh_10 σ') → X 0 [some (.ref 0)] [] sh_10 σ 0 0 := by
    intro j
    induction j with
    | zero =>
      intro p σ hj hp hP hq
      refine hX _ _ _ _ _ _ _ ?_
      refine b_ge hP.2.1 (hP.en hT) (by omega) (by omega) (fun h => ?_) (fun h => by omega)
      refine hX _ _ _ _ _ _ _ ?_
      exact hq σ (by rw [sk, run_stop (by omega)]; exact hP)
    | succ j ih =>
      intro p σ hj hp hP hq
      refine hX _ _ _ _ _ _ _ ?_
      refine b_ge hP.2.1 (hP.en hT) (by omega) (by omega) (fun h => by omega) (fun h => ?_)
      refine g_letter hT hP hP.2.1 h ?_
      refine ⟨fun h2 => ?_, fun h2 => ?_⟩
      · refine hX _ _ _ _ _ _ _ ?_
        exact hq σ (by rw [sk, run_stop (fun z => h2 (kB_iff.mp z.2))]; exact hP)
      · refine ih (p + 1) _ (by omega) (by omega) (hP.at1 (by rw [hP.2.1]; exact nI_1 p)) ?_
        rw [sk, run_step h (kB_iff.mpr h2)] at hq
        exact hq
  exact loop _ p σ rfl hp hP hq
theorem g_here (hT : TX σ0 t n) (hP : PS σ0 σ p f dp) (hp : p ≤ n + 20) (hq : ∀ σ', PS σ0 σ' (sk t n p) f dp → Q (.inl (some (.int (nI (sk t n p))))) sh_10 σ') : mD (d + 3) 102 [.ref 0] sh_10 σ Q := by
  refine ⟨rfl, fun X hX => ?_⟩
  refine hX _ _ _ _ _ _ _ ?_
  refine g_skip hT hP hp ?_
  intro σ1 h1
  exact qi h1.2.1.symm (hq σ1 h1)
theorem g_isSign {c : Nat} {v : Int32} (hv : v = nI c) (hT : TX σ0 t n) (hP : PS σ0 σ p f dp) (hp : p ≤ n + 20) (q1 : sgB t n (sk t n p) c = true → ∀ σ', PS σ0 σ' (sk t n p) f dp → Q (.inl (some (.int (nI 1)))) sh_10 σ') (q0 : ¬ sgB t n (sk t n p) c = true → ∀ σ', PS σ0 σ' (sk t n p) f dp → Q (.inl (some (.int (nI 0)))) sh_10 σ') : mD (d + 3) 99 [.ref 0, .int v] sh_10 σ Q := by
  have hn := hT.2.1
  have hs : sk t n p ≤ n + 20 := by
    by_cases h : p ≤ n
    · have := sk_le (t := t) h; omega
    · rw [sk, run_stop (by omega)]; exact hp
  refine ⟨rfl, fun X hX => ?_⟩
  refine hX _ _ _ _ _ _ _ ?_
  refine g_skip hT hP hp ?_
  intro σ1 h1
  refine b_ge h1.2.1 (h1.en hT) (by omega) (by omega) (fun h => ?_) (fun h => ?_)
  · refine hX _ _ _ _ _ _ _ ?_
    refine hX _ _ _ _ _ _ _ ?_
    exact ⟨Or.inl rfl, q0 (fun z => by have := (sgB_iff.mp z).1; omega) σ1 h1⟩
  · refine g_letter hT h1 h1.2.1 h ?_
    refine ⟨fun h2 => ?_, fun h2 => ?_⟩
    · refine hX _ _ _ _ _ _ _ ?_
      refine hX _ _ _ _ _ _ _ ?_
      exact ⟨Or.inl rfl, q0 (fun z => h2 ((sgB_iff.mp z).2.trans hv.symm)) σ1 h1⟩
    · refine hX _ _ _ _ _ _ _ ?_
      exact ⟨Or.inr rfl, q1 (sgB_iff.mpr ⟨h, (show t _ = v from h2).trans hv⟩) σ1 h1⟩
theorem g_wrong {e : Nat} {v : Int32} (hv : v = nI e) (hP : PS σ0 σ p (-(nI 1)) dp) (hq : ∀ σ', PS σ0 σ' p (nI e) dp → Q (.inl none) sh_10 σ') : mD (d + 1) 101 [.ref 0, .int v] sh_10 σ Q := by
  refine ⟨rfl, fun X hX => ?_⟩
  refine hX _ _ _ _ _ _ _ ?_
  refine ⟨fun h => absurd hP.2.2.1 h, fun _ => ?_⟩
  refine hX _ _ _ _ _ _ _ ?_
  subst hv
  exact hq _ hP.flt
end LEX
