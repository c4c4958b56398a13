/-! WHAT A ROW MAY HOLD -/
def BD (m : Nat → Int32) (n nc ns nd : Nat) : Prop :=
  (m 3 = nI n ∧ n ≤ 7) ∧ (m 4 = nI nc ∧ nc ≤ 3) ∧ (m 5 = nI ns ∧ ns ≤ 4) ∧ (m 6 = nI nd ∧ nd ≤ 6) ∧
  (∀ s, s < n → (∃ x, x ≤ 9 ∧ m (20 + 9 * s) = nI x) ∧ (∃ y, y ≤ 9 ∧ m (21 + 9 * s) = nI y) ∧ (∃ w, w ≤ 99 ∧ m (22 + 9 * s) = nI w) ∧ ∀ g, g < 6 → ∃ q, q ≤ 9 ∧ m (23 + 9 * s + g) = nI q) ∧
  (∀ c, c < nc → (∃ h, 1 ≤ h ∧ h ≤ 9 ∧ m (83 + 2 * c) = nI h) ∧ ∃ g, 1 ≤ g ∧ g ≤ 99 ∧ m (84 + 2 * c) = nI g) ∧
  (∀ k, k < ns → ∃ q, 2 ≤ q ∧ q ≤ 6 ∧ m (89 + k) = nI q) ∧
  (∀ k, k < nd → ∃ lo hi q p, 1 ≤ lo ∧ lo ≤ hi ∧ hi ≤ 6 ∧ 1 ≤ q ∧ q ≤ 99 ∧ p ≤ 9 ∧ m (93 + 5 * k) = nI lo ∧ m (93 + 5 * k + 1) = nI hi ∧ m (93 + 5 * k + 2) = nI q ∧ m (93 + 5 * k + 3) = nI p ∧ b01 (m (93 + 5 * k + 4))) ∧
  (∃ q, q ≤ 100 ∧ m 7 = nI q) ∧ (∃ q, q ≤ 9999 ∧ m 9 = nI q) ∧ b01 (m 11) ∧ (∃ q, q ≤ 60 ∧ m 12 = nI q)
/-- places that bounds are of -/
def rel (i : Nat) : Prop := (3 ≤ i ∧ i ≤ 7) ∨ i = 9 ∨ i = 11 ∨ i = 12 ∨ (20 ≤ i ∧ i < 123)
section BDS
variable {m m' : Nat → Int32} {n nc ns nd : Nat} {v : Int32}
theorem BD.off (h : BD m n nc ns nd) (hm : ∀ i, rel i → m' i = m i) : BD m' n nc ns nd := by
  obtain ⟨⟨a1, a1'⟩, ⟨a2, a2'⟩, ⟨a3, a3'⟩, ⟨a4, a4'⟩, a5, a6, a7, a8, a9, a10, a11, a12⟩ := h
  refine ⟨⟨by rw [hm 3 (by unfold rel; omega)]; exact a1, a1'⟩, ⟨by rw [hm 4 (by unfold rel; omega)]; exact a2, a2'⟩, ⟨by rw [hm 5 (by unfold rel; omega)]; exact a3, a3'⟩, ⟨by rw [hm 6 (by unfold rel; omega)]; exact a4, a4'⟩, fun s hs => ?_, fun c hc => ?_, fun k hk => ?_, fun k hk => ?_, by rw [hm 7 (by unfold rel; omega)]; exact a9, by rw [hm 9 (by unfold rel; omega)]; exact a10, by rw [hm 11 (by unfold rel; omega)]; exact a11, by rw [hm 12 (by unfold rel; omega)]; exact a12⟩
  · obtain ⟨b1, b2, b3, b4⟩ := a5 s hs
    exact ⟨by rw [hm _ (by unfold rel; omega)]; exact b1, by rw [hm _ (by unfold rel; omega)]; exact b2, by rw [hm _ (by unfold rel; omega)]; exact b3, fun g hg => by rw [hm _ (by unfold rel; omega)]; exact b4 g hg⟩
  · obtain ⟨b1, b2⟩ := a6 c hc
    exact ⟨by rw [hm _ (by unfold rel; omega)]; exact b1, by rw [hm _ (by unfold rel; omega)]; exact b2⟩
  · rw [hm _ (by unfold rel; omega)]; exact a7 k hk
  · rw [hm _ (by unfold rel; omega), hm (93 + 5 * k + 1) (by unfold rel; omega), hm (93 + 5 * k + 2) (by unfold rel; omega), hm (93 + 5 * k + 3) (by unfold rel; omega), hm (93 + 5 * k + 4) (by unfold rel; omega)]; exact a8 k hk
theorem BD.u0 (h : BD m n nc ns nd) {i : Nat} (hi : ¬ rel i) : BD (upd m i v) n nc ns nd := h.off (fun j hj => upd_off (fun e => hi (e ▸ hj)))
theorem BD.uw (h : BD m n nc ns nd) {s : Nat} (hs : s < 7) (hv : ∃ w, w ≤ 99 ∧ v = nI w) : BD (upd m (22 + 9 * s) v) n nc ns nd := by
  obtain ⟨⟨a1, a1'⟩, ⟨a2, a2'⟩, ⟨a3, a3'⟩, ⟨a4, a4'⟩, a5, a6, a7, a8, a9, a10, a11, a12⟩ := h
  refine ⟨⟨by rw [upd_off (by omega)]; exact a1, a1'⟩, ⟨by rw [upd_off (by omega)]; exact a2, a2'⟩, ⟨by rw [upd_off (by omega)]; exact a3, a3'⟩, ⟨by rw [upd_off (by omega)]; exact a4, a4'⟩, fun s' hs' => ?_, fun c hc => ?_, fun k hk => ?_, fun k hk => ?_, by rw [upd_off (by omega)]; exact a9, by rw [upd_off (by omega)]; exact a10, by rw [upd_off (by omega)]; exact a11, by rw [upd_off (by omega)]; exact a12⟩
  · obtain ⟨b1, b2, b3, b4⟩ := a5 s' hs'
    refine ⟨by rw [upd_off (by omega)]; exact b1, by rw [upd_off (by omega)]; exact b2, ?_, fun g hg => by rw [upd_off (by omega)]; exact b4 g hg⟩
    by_cases e : s' = s
    · rw [e, upd_at]; exact hv
    · rw [upd_off (by omega)]; exact b3
  · obtain ⟨b1, b2⟩ := a6 c hc
    exact ⟨by rw [upd_off (by omega)]; exact b1, by rw [upd_off (by omega)]; exact b2⟩
  · rw [upd_off (by omega)]; exact a7 k hk
  · rw [upd_off (by omega), upd_off (by omega), upd_off (by omega), upd_off (by omega), upd_off (by omega)]; exact a8 k hk
theorem BD.umix (h : BD m n nc ns nd) {s g : Nat} (hs : s < 7) (hg : g < 6) (hv : ∃ w, w ≤ 9 ∧ v = nI w) : BD (upd m (23 + 9 * s + g) v) n nc ns nd := by
  obtain ⟨⟨a1, a1'⟩, ⟨a2, a2'⟩, ⟨a3, a3'⟩, ⟨a4, a4'⟩, a5, a6, a7, a8, a9, a10, a11, a12⟩ := h
  refine ⟨⟨by rw [upd_off (by omega)]; exact a1, a1'⟩, ⟨by rw [upd_off (by omega)]; exact a2, a2'⟩, ⟨by rw [upd_off (by omega)]; exact a3, a3'⟩, ⟨by rw [upd_off (by omega)]; exact a4, a4'⟩, fun s' hs' => ?_, fun c hc => ?_, fun k hk => ?_, fun k hk => ?_, by rw [upd_off (by omega)]; exact a9, by rw [upd_off (by omega)]; exact a10, by rw [upd_off (by omega)]; exact a11, by rw [upd_off (by omega)]; exact a12⟩
  · obtain ⟨b1, b2, b3, b4⟩ := a5 s' hs'
    refine ⟨by rw [upd_off (by omega)]; exact b1, by rw [upd_off (by omega)]; exact b2, by rw [upd_off (by omega)]; exact b3, fun g' hg' => ?_⟩
    by_cases e : s' = s ∧ g' = g
    · rw [e.1, e.2, upd_at]; exact hv
    · rw [upd_off (by omega)]; exact b4 g' hg'
  · obtain ⟨b1, b2⟩ := a6 c hc
    exact ⟨by rw [upd_off (by omega)]; exact b1, by rw [upd_off (by omega)]; exact b2⟩
  · rw [upd_off (by omega)]; exact a7 k hk
  · rw [upd_off (by omega), upd_off (by omega), upd_off (by omega), upd_off (by omega), upd_off (by omega)]; exact a8 k hk
theorem BD.u9 (h : BD m n nc ns nd) (hv : ∃ w, w ≤ 9999 ∧ v = nI w) : BD (upd m 9 v) n nc ns nd := by
  obtain ⟨⟨a1, a1'⟩, ⟨a2, a2'⟩, ⟨a3, a3'⟩, ⟨a4, a4'⟩, a5, a6, a7, a8, a9, a10, a11, a12⟩ := h
  refine ⟨⟨by rw [upd_off (by omega)]; exact a1, a1'⟩, ⟨by rw [upd_off (by omega)]; exact a2, a2'⟩, ⟨by rw [upd_off (by omega)]; exact a3, a3'⟩, ⟨by rw [upd_off (by omega)]; exact a4, a4'⟩, fun s' hs' => ?_, fun c hc => ?_, fun k hk => ?_, fun k hk => ?_, by rw [upd_off (by omega)]; exact a9, by rw [upd_at]; exact hv, by rw [upd_off (by omega)]; exact a11, by rw [upd_off (by omega)]; exact a12⟩
  · obtain ⟨b1, b2, b3, b4⟩ := a5 s' hs'
    exact ⟨by rw [upd_off (by omega)]; exact b1, by rw [upd_off (by omega)]; exact b2, by rw [upd_off (by omega)]; exact b3, fun g hg => by rw [upd_off (by omega)]; exact b4 g hg⟩
  · obtain ⟨b1, b2⟩ := a6 c hc
    exact ⟨by rw [upd_off (by omega)]; exact b1, by rw [upd_off (by omega)]; exact b2⟩
  · rw [upd_off (by omega)]; exact a7 k hk
  · rw [upd_off (by omega), upd_off (by omega), upd_off (by omega), upd_off (by omega), upd_off (by omega)]; exact a8 k hk
theorem BD.u11 (h : BD m n nc ns nd) (hv : b01 v) : BD (upd m 11 v) n nc ns nd := by
  obtain ⟨⟨a1, a1'⟩, ⟨a2, a2'⟩, ⟨a3, a3'⟩, ⟨a4, a4'⟩, a5, a6, a7, a8, a9, a10, a11, a12⟩ := h
  refine ⟨⟨by rw [upd_off (by omega)]; exact a1, a1'⟩, ⟨by rw [upd_off (by omega)]; exact a2, a2'⟩, ⟨by rw [upd_off (by omega)]; exact a3, a3'⟩, ⟨by rw [upd_off (by omega)]; exact a4, a4'⟩, fun s' hs' => ?_, fun c hc => ?_, fun k hk => ?_, fun k hk => ?_, by rw [upd_off (by omega)]; exact a9, by rw [upd_off (by omega)]; exact a10, by rw [upd_at]; exact hv, by rw [upd_off (by omega)]; exact a12⟩
  · obtain ⟨b1, b2, b3, b4⟩ := a5 s' hs'
    exact ⟨by rw [upd_off (by omega)]; exact b1, by rw [upd_off (by omega)]; exact b2, by rw [upd_off (by omega)]; exact b3, fun g hg => by rw [upd_off (by omega)]; exact b4 g hg⟩
  · obtain ⟨b1, b2⟩ := a6 c hc
    exact ⟨by rw [upd_off (by omega)]; exact b1, by rw [upd_off (by omega)]; exact b2⟩
  · rw [upd_off (by omega)]; exact a7 k hk
  · rw [upd_off (by omega), upd_off (by omega), upd_off (by omega), upd_off (by omega), upd_off (by omega)]; exact a8 k hk
theorem BD.u12 (h : BD m n nc ns nd) (hv : ∃ w, w ≤ 60 ∧ v = nI w) : BD (upd m 12 v) n nc ns nd := by
  obtain ⟨⟨a1, a1'⟩, ⟨a2, a2'⟩, ⟨a3, a3'⟩, ⟨a4, a4'⟩, a5, a6, a7, a8, a9, a10, a11, a12⟩ := h
  refine ⟨⟨by rw [upd_off (by omega)]; exact a1, a1'⟩, ⟨by rw [upd_off (by omega)]; exact a2, a2'⟩, ⟨by rw [upd_off (by omega)]; exact a3, a3'⟩, ⟨by rw [upd_off (by omega)]; exact a4, a4'⟩, fun s' hs' => ?_, fun c hc => ?_, fun k hk => ?_, fun k hk => ?_, by rw [upd_off (by omega)]; exact a9, by rw [upd_off (by omega)]; exact a10, by rw [upd_off (by omega)]; exact a11, by rw [upd_at]; exact hv⟩
  · obtain ⟨b1, b2, b3, b4⟩ := a5 s' hs'
    exact ⟨by rw [upd_off (by omega)]; exact b1, by rw [upd_off (by omega)]; exact b2, by rw [upd_off (by omega)]; exact b3, fun g hg => by rw [upd_off (by omega)]; exact b4 g hg⟩
  · obtain ⟨b1, b2⟩ := a6 c hc
    exact ⟨by rw [upd_off (by omega)]; exact b1, by rw [upd_off (by omega)]; exact b2⟩
  · rw [upd_off (by omega)]; exact a7 k hk
  · rw [upd_off (by omega), upd_off (by omega), upd_off (by omega), upd_off (by omega), upd_off (by omega)]; exact a8 k hk
theorem BD.uop (h : BD m n nc ns nd) {k : Nat} (hk : k < 6) : BD (upd m (93 + 5 * k + 4) (nI 0)) n nc ns nd := by
  obtain ⟨⟨a1, a1'⟩, ⟨a2, a2'⟩, ⟨a3, a3'⟩, ⟨a4, a4'⟩, a5, a6, a7, a8, a9, a10, a11, a12⟩ := h
  refine ⟨⟨by rw [upd_off (by omega)]; exact a1, a1'⟩, ⟨by rw [upd_off (by omega)]; exact a2, a2'⟩, ⟨by rw [upd_off (by omega)]; exact a3, a3'⟩, ⟨by rw [upd_off (by omega)]; exact a4, a4'⟩, fun s' hs' => ?_, fun c hc => ?_, fun k hk => ?_, fun k' hk' => ?_, by rw [upd_off (by omega)]; exact a9, by rw [upd_off (by omega)]; exact a10, by rw [upd_off (by omega)]; exact a11, by rw [upd_off (by omega)]; exact a12⟩
  · obtain ⟨b1, b2, b3, b4⟩ := a5 s' hs'
    exact ⟨by rw [upd_off (by omega)]; exact b1, by rw [upd_off (by omega)]; exact b2, by rw [upd_off (by omega)]; exact b3, fun g hg => by rw [upd_off (by omega)]; exact b4 g hg⟩
  · obtain ⟨b1, b2⟩ := a6 c hc
    exact ⟨by rw [upd_off (by omega)]; exact b1, by rw [upd_off (by omega)]; exact b2⟩
  · rw [upd_off (by omega)]; exact a7 k hk
  · obtain ⟨lo, hi, q, p, c1, c2, c3, c4, c5, c6, c7, c8, c9, c10, c11⟩ := a8 k' hk'
    rw [upd_off (by omega), upd_off (by omega), upd_off (by omega), upd_off (by omega)]
    refine ⟨lo, hi, q, p, c1, c2, c3, c4, c5, c6, c7, c8, c9, c10, ?_⟩
    by_cases e : k' = k
    · rw [e, upd_at]; exact b01_0
    · rw [upd_off (by omega)]; exact c11
theorem sMin_nI {a b : Nat} (ha : a < 2 ^ 31) (hb : b < 2 ^ 31) : sMin (nI a) (nI b) = nI (min a b) := by
  unfold sMin
  by_cases h : a < b
  · rw [if_pos (nI_lt h hb), Nat.min_eq_left (by omega)]
  · rw [if_neg (nI_nlt (by omega) ha), Nat.min_eq_right (by omega)]
theorem BD.slog (h : BD m n nc ns nd) {a b c e f : Int32} : BD (sLog m a b c e f) n nc ns nd := by
  have h12 := h.2.2.2.2.2.2.2.2.2.2.2
  obtain ⟨q, hq, e12⟩ := h12
  have h2 : BD (upd m 12 (sMin (nI 60) (m 12 + nI 1))) n nc ns nd := h.u12 ⟨min 60 (q + 1), by omega, by rw [e12, nI_add, sMin_nI (by omega) (by omega)]⟩
  refine h2.off (fun i hi => ?_)
  by_cases ei : i = 12
  · subst ei
    rw [upd_at]; unfold sLog; rw [if_pos rfl]; rfl
  · rw [upd_off ei]
    unfold rel at hi
    exact sLog_off i (by omega) ei
end BDS
