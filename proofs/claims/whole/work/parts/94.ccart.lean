/-! THE CLASS: a cart; BOTH SIDES: tables of trips -/
section CCA
variable {d : Nat} {σ W : mSg} {m : Nat → Int32} {Q : mPst} {n nc ns nd : Nat}
theorem RYs.cg (h : RYs σ m) (hk : ∀ c, 5 ≤ c → c < 14 → W c = σ c) : RYs W m := RS.congr h (fun c hc => by
  show W (mgl [(5, 9)] c) = σ (mgl [(5, 9)] c)
  rw [mgl9 hc]
  exact hk _ (by omega) (by omega))
theorem RYs.sm (h : RYs σ m) : RYs (mback [(5, 9)] σ (fun j => σ (mgl [(5, 9)] j))) m := by rw [same1]; exact h
theorem YC.sm (h : YC σ m n) : YC (mback [(5, 9)] σ (fun j => σ (mgl [(5, 9)] j))) m n := by rw [same1]; exact h
theorem c_bestSetE {g : Nat} {x : Int32} (hg : g ≤ 99) (hx : x = nI g) (hB : BD m n nc ns nd) (hR : RR σ m) (hc : RCh σ m n) (hq : ∀ σ', RMe σ m n σ' → Q (.inl (some (.int (nI (sBt m n g (2 ^ n)))))) sh_6_7 σ') : mD (d + 5) 291 [.ref 0, .ref 4, .int x] sh_6_7 σ Q := by
  subst hx
  exact c_bestSet hg hB hR hc hq
set_option maxRecDepth 100000 in
theorem c_ycart {p w : Int32} (hB : BD m n nc ns nd) (hR : RYs σ m) (hC : YC σ m n) (q1 : ∀ c k, c < nc → p = nI c → k < 5 → w = nI k → ∀ σ', YC σ' m n → (∀ c, c ≠ 164 → c ≠ 165 → c ≠ 166 → σ' c = σ c) → Q (.inl (some (.int (sCa m n c k)))) sh_9 σ') (q0 : (¬ ∃ s, s < nc ∧ p = nI s) → Q (.inr 2) sh_9 σ) (q2 : (∃ s, s < nc ∧ p = nI s) → (¬ ∃ k, k < 5 ∧ w = nI k) → Q (.inr 4) sh_9 σ) : mD (d + 6) 8 [.ref 0, .int p, .int w] sh_9 σ Q := by
  have hn := hB.1.2
  have hnc := hB.2.1.2
  refine ⟨rfl, fun X hX => ?_⟩
  refine hX _ _ _ _ _ _ _ ?_
  refine c_needCart hB hR (fun c hc e => ?_) q0
  subst e
  have hg := gN_ok hB hc
  refine ⟨fun h => ?_, fun h => ?_, fun h => ?_, fun h => ?_, fun h => ?_, fun h => ?_, trivial⟩
  · refine hX _ _ _ _ _ _ _ ?_
    exact q2 ⟨c, hc, rfl⟩ (ti_no (n := 5) (by omega) rfl rfl h)
  · refine hX _ _ _ _ _ _ _ ?_
    refine c_holdOf (by omega) (qs rfl hR) ?_
    exact qw (Q := Q) (qn rfl) (q1 c 0 hc rfl (by omega) (ti_eq (by omega) h) σ hC (fun _ _ _ _ => rfl))
  · refine hX _ _ _ _ _ _ _ ?_
    refine c_goesOf (by omega) (qs rfl hR) ?_
    exact qw (Q := Q) (qn rfl) (q1 c 1 hc rfl (by omega) (ti_eq (by omega) h) σ hC (fun _ _ _ _ => rfl))
  · refine hX _ _ _ _ _ _ _ ?_
    refine c_reachedBy (by omega) hB hR ?_
    exact q1 c 2 hc rfl (by omega) (ti_eq (by omega) h) σ hC (fun _ _ _ _ => rfl)
  · refine hX _ _ _ _ _ _ _ ?_
    refine c_goesOf (by omega) (qs rfl hR) ?_
    refine c_bestSetE hg.2 hg.1 hB hR.sm.rr hC.sm.rch (fun σ2 h2 => ?_)
    have h4 := h2.back
    have hf : ∀ c, c ≠ 164 → c ≠ 165 → c ≠ 166 → mback [(164, 4), (5, 9)] (mback [(5, 9)] σ (fun j => σ (mgl [(5, 9)] j))) σ2 c = σ c := fun c a b e => (h4.2 c a b e).trans (congrFun same1 c)
    have hR2 := hR.cg (fun c a b => hf c (by omega) (by omega) (by omega))
    refine c_waitsOfSet hn hB.1.1 (qs rfl hR2) ?_
    exact qw (Q := Q) (qn rfl) (q1 c 3 hc rfl (by omega) (ti_eq (by omega) h) _ h4.1 hf)
  · refine hX _ _ _ _ _ _ _ ?_
    refine c_goesOf (by omega) (qs rfl hR) ?_
    refine c_bestSetE hg.2 hg.1 hB hR.sm.rr hC.sm.rch (fun σ2 h2 => ?_)
    have h4 := h2.back
    exact q1 c 4 hc rfl (by omega) (ti_eq (by omega) h) _ h4.1 (fun c a b e => (h4.2 c a b e).trans (congrFun same1 c))
end CCA
/-- a part of a set is looked at -/
def tA (ok : Nat → Bool) (g : Nat → Option Nat) (K p : Nat) (a : Option Nat) : Option Nat := match g (K ^^^ p) with
  | none => a
  | some v => if ok p = true then (match a with | none => some (v + 1) | some y => some (min y (v + 1))) else a
def tF (ok : Nat → Bool) (g : Nat → Option Nat) (K : Nat) : Nat → Nat → Option Nat → Option Nat
  | 0, _, a => a
  | f + 1, p, a => if p = 0 then a else tF ok g K f ((p - 1) &&& K) (tA ok g K p a)
def tB (ok : Nat → Bool) : Nat → Nat → Option Nat
  | 0 => fun _ => none
  | K + 1 => fun T => if T = K then (if K = 0 then some 0 else tF ok (tB ok K) K K K none) else tB ok K T
def oS (v : Nat) : Option Nat → Option Nat
  | none => some (v + 1)
  | some y => some (min y (v + 1))
theorem tA_s {ok : Nat → Bool} {g : Nat → Option Nat} {K p v : Nat} {a : Option Nat} (h : g (K ^^^ p) = some v) (h2 : ok p = true) : tA ok g K p a = oS v a := by
  unfold tA
  rw [h]
  show (if ok p = true then _ else _) = _
  rw [if_pos h2]
  cases a <;> rfl
theorem tB_step {ok : Nat → Bool} {K T : Nat} : tB ok (K + 1) T = if T = K then (if K = 0 then some 0 else tF ok (tB ok K) K K K none) else tB ok K T := rfl
theorem tA_le {ok : Nat → Bool} {g : Nat → Option Nat} {K p B : Nat} {a : Option Nat} (hg : ∀ T v, g T = some v → v ≤ B) (ha : ∀ v, a = some v → v ≤ B + 1) : ∀ v, tA ok g K p a = some v → v ≤ B + 1 := by
  intro v h
  unfold tA at h
  split at h
  · exact ha v h
  · rename_i w hw
    have := hg _ _ hw
    split at h
    · split at h
      · cases h; omega
      · cases h; omega
    · exact ha v h
theorem tF_le {ok : Nat → Bool} {g : Nat → Option Nat} {K B : Nat} (hg : ∀ T v, g T = some v → v ≤ B) : ∀ f p a, (∀ v, a = some v → v ≤ B + 1) → ∀ v, tF ok g K f p a = some v → v ≤ B + 1
  | 0, _, _, ha => ha
  | f + 1, p, a, ha => by
    intro v h
    unfold tF at h
    split at h
    · exact ha v h
    · exact tF_le hg f _ _ (tA_le hg ha) v h
theorem tB_le {ok : Nat → Bool} : ∀ K T v, tB ok K T = some v → v ≤ K
  | 0, T, v, h => by cases h
  | K + 1, T, v, h => by
    unfold tB at h
    split at h
    · split at h
      · cases h; omega
      · exact tF_le (fun T v => tB_le K T v) K K none (fun v h => by cases h) v h
    · have := tB_le K T v h; omega
theorem tB_st {ok : Nat → Bool} {T : Nat} : ∀ j, tB ok (T + 1 + j) T = tB ok (T + 1) T
  | 0 => rfl
  | j + 1 => by
    rw [← tB_st j]
    show tB ok (T + 1 + j + 1) T = _
    rw [tB_step, if_neg (by omega)]
theorem tB_self {ok : Nat → Bool} {K : Nat} (h : K ≠ 0) : tB ok (K + 1) K = tF ok (tB ok K) K K K none := by rw [tB_step, if_pos rfl, if_neg h]
theorem tB_low {ok : Nat → Bool} {K T : Nat} (h : T < K) : tB ok (K + 1) T = tB ok K T := by rw [tB_step, if_neg (by omega)]
theorem tF_0 {ok : Nat → Bool} {g : Nat → Option Nat} {K : Nat} {a : Option Nat} : ∀ f, tF ok g K f 0 a = a
  | 0 => rfl
  | f + 1 => by rw [tF, if_pos rfl]
theorem tF_s {ok : Nat → Bool} {g : Nat → Option Nat} {K p : Nat} {a : Option Nat} (h : p ≠ 0) (f : Nat) : tF ok g K (f + 1) p a = tF ok g K f ((p - 1) &&& K) (tA ok g K p a) := by rw [tF, if_neg h]
theorem bit_x1 : ∀ K, K < 128 → ∀ p, p < 128 → p &&& K = p → nI K &&& (nI p ^^^ -(nI 1)) = nI (K ^^^ p) := by decide +kernel
theorem bit_x2 : ∀ K, K < 128 → ∀ p, p < 128 → nI K ^^^ nI p = nI (K ^^^ p) := by decide +kernel
theorem bit_x3a : ∀ K, K < 128 → ∀ p, p < 128 → p &&& K = p → p ≠ 0 → K ^^^ p < K := by decide +kernel
theorem bit_x3b : ∀ K, K < 128 → ∀ p, p < 128 → p ≠ 0 → (nI p - nI 1) &&& nI K = nI ((p - 1) &&& K) := by decide +kernel
theorem bit_x3 (K : Nat) (hK : K < 128) (p : Nat) (hp : p < 128) (h : p &&& K = p) (h0 : p ≠ 0) : K ^^^ p < K ∧ (nI p - nI 1) &&& nI K = nI ((p - 1) &&& K) ∧ ((p - 1) &&& K) &&& K = (p - 1) &&& K := ⟨bit_x3a K hK p hp h h0, bit_x3b K hK p hp h0, by rw [Nat.and_assoc, Nat.and_self]⟩
theorem and_lt {p K : Nat} (h : p ≠ 0) : (p - 1) &&& K < p := Nat.lt_of_le_of_lt Nat.and_le_left (by omega)
