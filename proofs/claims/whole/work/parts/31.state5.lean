/-! THE CLASS: adding to a state, copying one -/
theorem cpy_at {f g : Nat → Int32} {n i : Nat} (h : i < n) : va_cpy f g 0 0 n i = f i := by
  unfold va_cpy
  rw [if_pos (by omega)]
  congr 1
  omega
theorem mlo_skip {k n c : Nat} {r : List (Nat × Nat)} (h : c < k ∨ k + n ≤ c) : mlo ((k, n) :: r) c = (match mlo r c with | some j => some (j + n) | none => none) := by
  have e : (Nat.ble k c && Nat.blt c (k + n)) = false := by
    cases hb : (Nat.ble k c && Nat.blt c (k + n)) with
    | false => rfl
    | true =>
      obtain ⟨h1, h2⟩ := mit_gen hb
      have h1 := Nat.le_of_ble_eq_true h1
      have h2 : c + 1 ≤ k + n := Nat.le_of_ble_eq_true h2
      omega
  simp only [mlo, e]
  rfl
theorem mback_out2 {k n k2 n2 c : Nat} {σ σ2 : mSg} (h : c < k ∨ k + n ≤ c) (h2 : c < k2 ∨ k2 + n2 ≤ c) : mback [(k, n), (k2, n2)] σ σ2 c = σ c := by
  unfold mback
  rw [mlo_skip h, mlo_out h2]
section CS5
variable {d : Nat} {σ : mSg} {m : Nat → Int32} {Q : mPst}
theorem c_logCopy (hR : RLg (fun j => σ (2 + j)) m) (hq : ∀ σ', RLg σ' m → (∀ j, 2 ≤ j → σ' j = σ j) → Q (.inl none) sh_3_3 σ') : mD (d + 1) 264 [.ref 0, .ref 2] sh_3_3 σ Q := by
  refine ⟨rfl, fun X hX => ?_⟩
  refine hX _ _ _ _ _ _ _ ?_
  refine ⟨⟨by decide +kernel, by decide +kernel, by decide +kernel, by decide +kernel, by decide +kernel⟩, ?_⟩
  obtain ⟨h1, nx, h2, h3, h4⟩ := hR
  refine hq _ ⟨?_, nx, h2, ?_, fun a w ha hw => ?_⟩ (fun j hj => ?_)
  · exact h1
  · exact h3
  · rw [mput_ne (by omega), mput_ne (by omega)]
    show va_cpy (σ 3) (σ 1) 0 0 300 _ = _
    rw [cpy_at (by omega)]
    exact h4 a w ha hw
  · rw [mput_ne (by omega), mput_ne (by omega)]
    show (if j = 1 then _ else σ j) = σ j
    rw [if_neg (by omega)]
theorem rp_len {c k i : Nat} (h : rp c k = some i) : ∃ l, mnx rpT c = some l ∧ k < l.length ∧ mnx l k = some (some i) := by
  unfold rp at h
  split at h
  · rename_i l hl
    split at h
    · rename_i x hx
      have hk := hx
      rw [mnx_eq] at hk
      exact ⟨l, hl, (List.getElem?_eq_some_iff.mp hk).1, by rw [hx, h]⟩
    · cases h
  · cases h
set_option maxHeartbeats 4000000 in
theorem c_stateCopy (hsm : m 11 = nI 0 ∨ m 11 = nI 1) (hR : RS (fun j => σ (9 + j)) m) (hq : ∀ σ', RS σ' m → (∀ j, 9 ≤ j → σ' j = σ j) → Q (.inl none) sh_7_7 σ') : mD (d + 2) 296 [.ref 0, .ref 9] sh_7_7 σ Q := by
  have hlog : RLg (fun j => σ (16 + j)) m := by
    obtain ⟨h1, nx, h2, h3, h4⟩ := hR
    exact ⟨h1 7 1 12 rf0.2.2.2.2.2.2.2.2.2.2.2, nx, h2, h3, h4⟩
  have hsm2 : σ 9 16 = 0 ∨ σ 9 16 = 1 := by
    have e : σ 9 16 = m 11 := hR.1 0 16 11 rf0.2.2.2.2.2.2.2.2.2.1
    rw [e]; exact hsm
  refine ⟨rfl, fun X hX => ?_⟩
  refine hX _ _ _ _ _ _ _ ?_
  refine ⟨⟨by decide +kernel, by decide +kernel, by decide +kernel, by decide +kernel, by decide +kernel⟩, ?_⟩
  refine ⟨⟨by decide +kernel, by decide +kernel, by decide +kernel, by decide +kernel, by decide +kernel⟩, ?_⟩
  refine ⟨⟨by decide +kernel, by decide +kernel, by decide +kernel, by decide +kernel, by decide +kernel⟩, ?_⟩
  refine ⟨⟨by decide +kernel, by decide +kernel, by decide +kernel, by decide +kernel, by decide +kernel⟩, ?_⟩
  refine ⟨⟨by decide +kernel, by decide +kernel, by decide +kernel, by decide +kernel, by decide +kernel⟩, ?_⟩
  refine ⟨⟨by decide +kernel, by decide +kernel, by decide +kernel, by decide +kernel, by decide +kernel⟩, ?_⟩
  refine c_logCopy (m := m) ?_ ?_
  · obtain ⟨h1, nx, h2, h3, h4⟩ := hlog
    exact ⟨h1, nx, h2, h3, h4⟩
  · intro σ4 hL4 hk4
    have k2 : σ4 2 = σ 16 := hk4 2 (by omega)
    have k3 : σ4 3 = σ 17 := hk4 3 (by omega)
    refine ⟨?_, ?_⟩
    · exact hsm2
    · refine hq _ ⟨?_, ?_⟩ ?_
      · intro c k i hr
        obtain ⟨l, hl, hk, hx⟩ := rp_len hr
        have hc := (rp_lt hr).1
        have hv := hR.1 c k i hr
        have hcs : c = 0 ∨ c = 1 ∨ c = 2 ∨ c = 3 ∨ c = 4 ∨ c = 5 ∨ c = 6 ∨ c = 7 ∨ c = 8 := by omega
        rcases hcs with rfl | rfl | rfl | rfl | rfl | rfl | rfl | rfl | rfl
        · cases hl
          have hk18 : k < 18 := hk
          by_cases h7 : k < 7
          · have : ∀ k, k < 7 → rp 0 k = none := by decide +kernel
            rw [this k h7] at hr; cases hr
          · have hks : k = 7 ∨ k = 8 ∨ k = 9 ∨ k = 10 ∨ k = 11 ∨ k = 12 ∨ k = 13 ∨ k = 14 ∨ k = 15 ∨ k = 16 ∨ k = 17 := by omega
            rcases hks with rfl | rfl | rfl | rfl | rfl | rfl | rfl | rfl | rfl | rfl | rfl <;> exact hv
        · cases hl
          exact (cpy_at (f := σ 10) (g := σ 1) (n := 21) hk).trans hv
        · cases hl
          exact (cpy_at (f := σ 11) (g := σ 2) (n := 42) hk).trans hv
        · cases hl
          exact (cpy_at (f := σ 12) (g := σ 3) (n := 6) hk).trans hv
        · cases hl
          exact (cpy_at (f := σ 13) (g := σ 4) (n := 4) hk).trans hv
        · cases hl
          exact (cpy_at (f := σ 14) (g := σ 5) (n := 30) hk).trans hv
        · cases hl
          exact (cpy_at (f := σ 15) (g := σ 6) (n := 7) hk).trans hv
        · have h12 : i = 12 ∧ k = 1 := by
            cases hl
            have hks : k = 0 ∨ k = 1 ∨ k = 2 := by have : k < 3 := hk; omega
            rcases hks with rfl | rfl | rfl
            · cases hx
            · cases hx; exact ⟨rfl, rfl⟩
            · cases hx
          obtain ⟨rfl, rfl⟩ := h12
          exact hL4.1
        · cases hl
          exact absurd hk (by simp)
      · obtain ⟨-, nx, g2, g3, g4⟩ := hL4
        exact ⟨nx, g2, g3, g4⟩
      · intro j hj
        rw [mput_ne (by omega), mput_ne (by omega), mput_ne (by omega), mput_ne (by omega), mput_ne (by omega), mput_ne (by omega), mput_ne (by omega), mput_ne (by omega), mput_ne (by omega), mput_ne (by omega), mput_ne (by omega)]
        by_cases e16 : j = 16
        · subst e16; exact k2
        · by_cases e17 : j = 17
          · subst e17; exact k3
          · refine (mback_out2 (k := 7) (n := 2) (k2 := 16) (n2 := 2) (by omega) (by omega)).trans ?_
            show (if j = 6 then _ else if j = 5 then _ else if j = 4 then _ else if j = 3 then _ else if j = 2 then _ else if j = 1 then _ else σ j) = σ j
            rw [if_neg (by omega), if_neg (by omega), if_neg (by omega), if_neg (by omega), if_neg (by omega), if_neg (by omega)]
end CS5
