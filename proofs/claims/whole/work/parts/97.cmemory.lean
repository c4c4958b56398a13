/-! THE CLASS: what was ahead of acts -/
def psh (m : Nat → Int32) (row : Nat → Nat → Int32) : Nat → Nat → Int32
  | 0 => m
  | j + 1 => row j
def ME (σ : mSg) (a : Nat) (row : Nat → Nat → Int32) : Prop := σ 0 1 = nI a ∧ a ≤ 12 ∧ ∃ nx, nx < 12 ∧ σ 0 2 = nI nx ∧ ∀ j, j < a → RS (fun c => σ (2 + 9 * ((nx + 11 - j) % 12) + c)) (row j)
theorem ME.congr {σ σ2 : mSg} {a : Nat} {row : Nat → Nat → Int32} (h : ME σ a row) (h2 : ∀ c, c < 110 → σ2 c = σ c) : ME σ2 a row := by
  obtain ⟨h1, ha, nx, h3, h4, h5⟩ := h
  refine ⟨by rw [h2 0 (by omega)]; exact h1, ha, nx, h3, by rw [h2 0 (by omega)]; exact h4, fun j hj => RS.congr (h5 j hj) (fun c hc => h2 _ (by omega))⟩
theorem mgl_99 {b1 b2 c : Nat} (h : c < 9) : mgl [(b1, 9), (b2, 9)] (9 + c) = b2 + c := by
  unfold mgl
  rw [show Nat.blt (9 + c) 9 = false from by
    cases hb : Nat.blt (9 + c) 9 with
    | false => rfl
    | true => have h1 : 9 + c + 1 ≤ 9 := Nat.le_of_ble_eq_true hb; omega]
  show mgl [(b2, 9)] (9 + c - 9) = b2 + c
  rw [Nat.add_sub_cancel_left, mgl9 h]
theorem mlo_hd {k n c : Nat} {r : List (Nat × Nat)} (h : k ≤ c ∧ c < k + n) : mlo ((k, n) :: r) c = some (c - k) := by
  have e : (Nat.ble k c && Nat.blt c (k + n)) = true := by
    rw [Bool.and_eq_true]
    exact ⟨Nat.ble_eq_true_of_le h.1, Nat.ble_eq_true_of_le h.2⟩
  simp only [mlo, e]
theorem bk1 {b b2 c : Nat} {σ σ2 : mSg} (h : c < 9) : mback [(b, 9), (b2, 9)] σ σ2 (b + c) = σ2 c := by
  unfold mback
  rw [mlo_hd (by omega), Nat.add_sub_cancel_left]
theorem bk2 {b b2 c : Nat} {σ σ2 : mSg} (g : ∀ j, 9 ≤ j → σ2 j = σ (mgl [(b, 9), (b2, 9)] j)) (h : c < b ∨ b + 9 ≤ c) : mback [(b, 9), (b2, 9)] σ σ2 c = σ c := by
  by_cases e : b2 ≤ c ∧ c < b2 + 9
  · unfold mback
    rw [mlo_skip h, mlo_in e]
    show σ2 (c - b2 + 9) = σ c
    rw [g _ (by omega), Nat.add_comm, mgl_99 (by omega)]
    congr 1; omega
  · exact mback_out2 h (by omega)
section CME
variable {d : Nat} {σ : mSg} {m : Nat → Int32} {Q : mPst} {a : Nat} {row : Nat → Nat → Int32}
theorem c_keep (hb : m 11 = nI 0 ∨ m 11 = nI 1) (hM : ME σ a row) (hR : RS (fun c => σ (110 + c)) m) (hq : ∀ σ', ME σ' (min 12 (a + 1)) (psh m row) → (∀ c, 110 ≤ c → σ' c = σ c) → Q (.inl none) sh_4_7 σ') : mD (d + 3) 270 [.ref 0, .ref 110] sh_4_7 σ Q := by
  obtain ⟨h1, ha, nx, h3, h4, h5⟩ := hM
  refine ⟨rfl, fun X hX => ?_⟩
  have fin : ∀ W x, x = nI ((nx + 1) % 12) → RS (fun c => W (2 + 9 * nx + c)) m → (∀ c, c < 2 + 9 * nx ∨ 2 + 9 * nx + 9 ≤ c → W c = σ c) → X 35 [some (.ref 0), none] [.int x, .ref 0] sh_4_7 W 0 0 := by
    intro W x hx hW hf
    refine hX _ _ _ _ _ _ _ ?_
    have e0 : W 0 1 = nI a := by rw [hf 0 (by omega)]; exact h1
    refine hq _ ⟨?_, by omega, (nx + 1) % 12, by omega, hx, fun j hj => ?_⟩ (fun c hc => ?_)
    · show sMin (nI 12) (W 0 1 + nI 1) = _
      rw [e0, nI_add, sMin_nI (by omega) (by omega)]
    · cases j with
      | zero =>
        refine RS.congr hW (fun c hc => ?_)
        show mput (mput W 0 2 x) 0 1 _ (2 + 9 * (((nx + 1) % 12 + 11 - 0) % 12) + c) = W (2 + 9 * nx + c)
        rw [mput_ne (by omega), mput_ne (by omega), show ((nx + 1) % 12 + 11 - 0) % 12 = nx by omega]
      | succ j =>
        refine RS.congr (h5 j (by omega)) (fun c hc => ?_)
        show mput (mput W 0 2 x) 0 1 _ (2 + 9 * (((nx + 1) % 12 + 11 - (j + 1)) % 12) + c) = σ (2 + 9 * ((nx + 11 - j) % 12) + c)
        rw [mput_ne (by omega), mput_ne (by omega), show ((nx + 1) % 12 + 11 - (j + 1)) % 12 = (nx + 11 - j) % 12 by omega]
        exact hf _ (by omega)
    · show mput (mput W 0 2 x) 0 1 _ c = σ c
      rw [mput_ne (by omega), mput_ne (by omega)]
      exact hf c (by omega)
  have hc : nx = 0 ∨ nx = 1 ∨ nx = 2 ∨ nx = 3 ∨ nx = 4 ∨ nx = 5 ∨ nx = 6 ∨ nx = 7 ∨ nx = 8 ∨ nx = 9 ∨ nx = 10 ∨ nx = 11 := by omega
  refine hX _ _ _ _ _ _ _ ?_
  rcases hc with rfl | rfl | rfl | rfl | rfl | rfl | rfl | rfl | rfl | rfl | rfl | rfl
  · refine ⟨vin h4 (by decide) (by decide), 2, by show mnx _ (σ 0 2).toNatClampNeg = _; rw [clN h4 (by omega)]; rfl, ?_⟩
    refine c_stateCopy hb (RS.congr hR (fun c hc => congrArg σ (mgl_99 (b1 := 2) (b2 := 110) hc))) (fun σ2 g1 g2 => ?_)
    have f := fun c h => bk2 (b := 2) (b2 := 110) (c := c) (σ := σ) (σ2 := σ2) g2 h
    have e2 : mback [(2, 9), (110, 9)] σ σ2 0 2 = nI 0 := by rw [f 0 (by omega)]; exact h4
    have gR : RS (fun c => mback [(2, 9), (110, 9)] σ σ2 (2 + c)) m := RS.congr g1 (fun c hc => bk1 hc)
    have e3 : mback [(2, 9), (110, 9)] σ σ2 0 2 + nI 1 = nI 1 := by rw [e2]; rfl
    refine b_ge e3 (b := 12) rfl (by omega) (by omega) (fun h => ?_) (fun h => ?_)
    · omega
    · exact fin _ _ e3 gR f
  · refine ⟨vin h4 (by decide) (by decide), 11, by show mnx _ (σ 0 2).toNatClampNeg = _; rw [clN h4 (by omega)]; rfl, ?_⟩
    refine c_stateCopy hb (RS.congr hR (fun c hc => congrArg σ (mgl_99 (b1 := 11) (b2 := 110) hc))) (fun σ2 g1 g2 => ?_)
    have f := fun c h => bk2 (b := 11) (b2 := 110) (c := c) (σ := σ) (σ2 := σ2) g2 h
    have e2 : mback [(11, 9), (110, 9)] σ σ2 0 2 = nI 1 := by rw [f 0 (by omega)]; exact h4
    have gR : RS (fun c => mback [(11, 9), (110, 9)] σ σ2 (11 + c)) m := RS.congr g1 (fun c hc => bk1 hc)
    have e3 : mback [(11, 9), (110, 9)] σ σ2 0 2 + nI 1 = nI 2 := by rw [e2]; rfl
    refine b_ge e3 (b := 12) rfl (by omega) (by omega) (fun h => ?_) (fun h => ?_)
    · omega
    · exact fin _ _ e3 gR f
  · refine ⟨vin h4 (by decide) (by decide), 20, by show mnx _ (σ 0 2).toNatClampNeg = _; rw [clN h4 (by omega)]; rfl, ?_⟩
    refine c_stateCopy hb (RS.congr hR (fun c hc => congrArg σ (mgl_99 (b1 := 20) (b2 := 110) hc))) (fun σ2 g1 g2 => ?_)
    have f := fun c h => bk2 (b := 20) (b2 := 110) (c := c) (σ := σ) (σ2 := σ2) g2 h
    have e2 : mback [(20, 9), (110, 9)] σ σ2 0 2 = nI 2 := by rw [f 0 (by omega)]; exact h4
    have gR : RS (fun c => mback [(20, 9), (110, 9)] σ σ2 (20 + c)) m := RS.congr g1 (fun c hc => bk1 hc)
    have e3 : mback [(20, 9), (110, 9)] σ σ2 0 2 + nI 1 = nI 3 := by rw [e2]; rfl
    refine b_ge e3 (b := 12) rfl (by omega) (by omega) (fun h => ?_) (fun h => ?_)
    · omega
    · exact fin _ _ e3 gR f
  · refine ⟨vin h4 (by decide) (by decide), 29, by show mnx _ (σ 0 2).toNatClampNeg = _; rw [clN h4 (by omega)]; rfl, ?_⟩
    refine c_stateCopy hb (RS.congr hR (fun c hc => congrArg σ (mgl_99 (b1 := 29) (b2 := 110) hc))) (fun σ2 g1 g2 => ?_)
    have f := fun c h => bk2 (b := 29) (b2 := 110) (c := c) (σ := σ) (σ2 := σ2) g2 h
    have e2 : mback [(29, 9), (110, 9)] σ σ2 0 2 = nI 3 := by rw [f 0 (by omega)]; exact h4
    have gR : RS (fun c => mback [(29, 9), (110, 9)] σ σ2 (29 + c)) m := RS.congr g1 (fun c hc => bk1 hc)
    have e3 : mback [(29, 9), (110, 9)] σ σ2 0 2 + nI 1 = nI 4 := by rw [e2]; rfl
    refine b_ge e3 (b := 12) rfl (by omega) (by omega) (fun h => ?_) (fun h => ?_)
    · omega
    · exact fin _ _ e3 gR f
  · refine ⟨vin h4 (by decide) (by decide), 38, by show mnx _ (σ 0 2).toNatClampNeg = _; rw [clN h4 (by omega)]; rfl, ?_⟩
    refine c_stateCopy hb (RS.congr hR (fun c hc => congrArg σ (mgl_99 (b1 := 38) (b2 := 110) hc))) (fun σ2 g1 g2 => ?_)
    have f := fun c h => bk2 (b := 38) (b2 := 110) (c := c) (σ := σ) (σ2 := σ2) g2 h
    have e2 : mback [(38, 9), (110, 9)] σ σ2 0 2 = nI 4 := by rw [f 0 (by omega)]; exact h4
    have gR : RS (fun c => mback [(38, 9), (110, 9)] σ σ2 (38 + c)) m := RS.congr g1 (fun c hc => bk1 hc)
    have e3 : mback [(38, 9), (110, 9)] σ σ2 0 2 + nI 1 = nI 5 := by rw [e2]; rfl
    refine b_ge e3 (b := 12) rfl (by omega) (by omega) (fun h => ?_) (fun h => ?_)
    · omega
    · exact fin _ _ e3 gR f
  · refine ⟨vin h4 (by decide) (by decide), 47, by show mnx _ (σ 0 2).toNatClampNeg = _; rw [clN h4 (by omega)]; rfl, ?_⟩
    refine c_stateCopy hb (RS.congr hR (fun c hc => congrArg σ (mgl_99 (b1 := 47) (b2 := 110) hc))) (fun σ2 g1 g2 => ?_)
    have f := fun c h => bk2 (b := 47) (b2 := 110) (c := c) (σ := σ) (σ2 := σ2) g2 h
    have e2 : mback [(47, 9), (110, 9)] σ σ2 0 2 = nI 5 := by rw [f 0 (by omega)]; exact h4
    have gR : RS (fun c => mback [(47, 9), (110, 9)] σ σ2 (47 + c)) m := RS.congr g1 (fun c hc => bk1 hc)
    have e3 : mback [(47, 9), (110, 9)] σ σ2 0 2 + nI 1 = nI 6 := by rw [e2]; rfl
    refine b_ge e3 (b := 12) rfl (by omega) (by omega) (fun h => ?_) (fun h => ?_)
    · omega
    · exact fin _ _ e3 gR f
  · refine ⟨vin h4 (by decide) (by decide), 56, by show mnx _ (σ 0 2).toNatClampNeg = _; rw [clN h4 (by omega)]; rfl, ?_⟩
    refine c_stateCopy hb (RS.congr hR (fun c hc => congrArg σ (mgl_99 (b1 := 56) (b2 := 110) hc))) (fun σ2 g1 g2 => ?_)
    have f := fun c h => bk2 (b := 56) (b2 := 110) (c := c) (σ := σ) (σ2 := σ2) g2 h
    have e2 : mback [(56, 9), (110, 9)] σ σ2 0 2 = nI 6 := by rw [f 0 (by omega)]; exact h4
    have gR : RS (fun c => mback [(56, 9), (110, 9)] σ σ2 (56 + c)) m := RS.congr g1 (fun c hc => bk1 hc)
    have e3 : mback [(56, 9), (110, 9)] σ σ2 0 2 + nI 1 = nI 7 := by rw [e2]; rfl
    refine b_ge e3 (b := 12) rfl (by omega) (by omega) (fun h => ?_) (fun h => ?_)
    · omega
    · exact fin _ _ e3 gR f
  · refine ⟨vin h4 (by decide) (by decide), 65, by show mnx _ (σ 0 2).toNatClampNeg = _; rw [clN h4 (by omega)]; rfl, ?_⟩
    refine c_stateCopy hb (RS.congr hR (fun c hc => congrArg σ (mgl_99 (b1 := 65) (b2 := 110) hc))) (fun σ2 g1 g2 => ?_)
    have f := fun c h => bk2 (b := 65) (b2 := 110) (c := c) (σ := σ) (σ2 := σ2) g2 h
    have e2 : mback [(65, 9), (110, 9)] σ σ2 0 2 = nI 7 := by rw [f 0 (by omega)]; exact h4
    have gR : RS (fun c => mback [(65, 9), (110, 9)] σ σ2 (65 + c)) m := RS.congr g1 (fun c hc => bk1 hc)
    have e3 : mback [(65, 9), (110, 9)] σ σ2 0 2 + nI 1 = nI 8 := by rw [e2]; rfl
    refine b_ge e3 (b := 12) rfl (by omega) (by omega) (fun h => ?_) (fun h => ?_)
    · omega
    · exact fin _ _ e3 gR f
  · refine ⟨vin h4 (by decide) (by decide), 74, by show mnx _ (σ 0 2).toNatClampNeg = _; rw [clN h4 (by omega)]; rfl, ?_⟩
    refine c_stateCopy hb (RS.congr hR (fun c hc => congrArg σ (mgl_99 (b1 := 74) (b2 := 110) hc))) (fun σ2 g1 g2 => ?_)
    have f := fun c h => bk2 (b := 74) (b2 := 110) (c := c) (σ := σ) (σ2 := σ2) g2 h
    have e2 : mback [(74, 9), (110, 9)] σ σ2 0 2 = nI 8 := by rw [f 0 (by omega)]; exact h4
    have gR : RS (fun c => mback [(74, 9), (110, 9)] σ σ2 (74 + c)) m := RS.congr g1 (fun c hc => bk1 hc)
    have e3 : mback [(74, 9), (110, 9)] σ σ2 0 2 + nI 1 = nI 9 := by rw [e2]; rfl
    refine b_ge e3 (b := 12) rfl (by omega) (by omega) (fun h => ?_) (fun h => ?_)
    · omega
    · exact fin _ _ e3 gR f
  · refine ⟨vin h4 (by decide) (by decide), 83, by show mnx _ (σ 0 2).toNatClampNeg = _; rw [clN h4 (by omega)]; rfl, ?_⟩
    refine c_stateCopy hb (RS.congr hR (fun c hc => congrArg σ (mgl_99 (b1 := 83) (b2 := 110) hc))) (fun σ2 g1 g2 => ?_)
    have f := fun c h => bk2 (b := 83) (b2 := 110) (c := c) (σ := σ) (σ2 := σ2) g2 h
    have e2 : mback [(83, 9), (110, 9)] σ σ2 0 2 = nI 9 := by rw [f 0 (by omega)]; exact h4
    have gR : RS (fun c => mback [(83, 9), (110, 9)] σ σ2 (83 + c)) m := RS.congr g1 (fun c hc => bk1 hc)
    have e3 : mback [(83, 9), (110, 9)] σ σ2 0 2 + nI 1 = nI 10 := by rw [e2]; rfl
    refine b_ge e3 (b := 12) rfl (by omega) (by omega) (fun h => ?_) (fun h => ?_)
    · omega
    · exact fin _ _ e3 gR f
  · refine ⟨vin h4 (by decide) (by decide), 92, by show mnx _ (σ 0 2).toNatClampNeg = _; rw [clN h4 (by omega)]; rfl, ?_⟩
    refine c_stateCopy hb (RS.congr hR (fun c hc => congrArg σ (mgl_99 (b1 := 92) (b2 := 110) hc))) (fun σ2 g1 g2 => ?_)
    have f := fun c h => bk2 (b := 92) (b2 := 110) (c := c) (σ := σ) (σ2 := σ2) g2 h
    have e2 : mback [(92, 9), (110, 9)] σ σ2 0 2 = nI 10 := by rw [f 0 (by omega)]; exact h4
    have gR : RS (fun c => mback [(92, 9), (110, 9)] σ σ2 (92 + c)) m := RS.congr g1 (fun c hc => bk1 hc)
    have e3 : mback [(92, 9), (110, 9)] σ σ2 0 2 + nI 1 = nI 11 := by rw [e2]; rfl
    refine b_ge e3 (b := 12) rfl (by omega) (by omega) (fun h => ?_) (fun h => ?_)
    · omega
    · exact fin _ _ e3 gR f
  · refine ⟨vin h4 (by decide) (by decide), 101, by show mnx _ (σ 0 2).toNatClampNeg = _; rw [clN h4 (by omega)]; rfl, ?_⟩
    refine c_stateCopy hb (RS.congr hR (fun c hc => congrArg σ (mgl_99 (b1 := 101) (b2 := 110) hc))) (fun σ2 g1 g2 => ?_)
    have f := fun c h => bk2 (b := 101) (b2 := 110) (c := c) (σ := σ) (σ2 := σ2) g2 h
    have e2 : mback [(101, 9), (110, 9)] σ σ2 0 2 = nI 11 := by rw [f 0 (by omega)]; exact h4
    have gR : RS (fun c => mback [(101, 9), (110, 9)] σ σ2 (101 + c)) m := RS.congr g1 (fun c hc => bk1 hc)
    have e3 : mback [(101, 9), (110, 9)] σ σ2 0 2 + nI 1 = nI 12 := by rw [e2]; rfl
    refine b_ge e3 (b := 12) rfl (by omega) (by omega) (fun h => ?_) (fun h => ?_)
    · refine hX _ _ _ _ _ _ _ ?_
      exact fin _ _ rfl gR f
    · omega
theorem c_undoInto (hb : 0 < a → row 0 11 = nI 0 ∨ row 0 11 = nI 1) (hM : ME σ a row) (q0 : a = 0 → Q (.inl (some (.int (nI 0)))) sh_4_7 σ) (q1 : ∀ a', a = a' + 1 → ∀ σ', ME σ' a' (fun j => row (j + 1)) → RS (fun c => σ' (110 + c)) (row 0) → (∀ c, 119 ≤ c → σ' c = σ c) → Q (.inl (some (.int (nI 1)))) sh_4_7 σ') : mD (d + 3) 271 [.ref 0, .ref 110] sh_4_7 σ Q := by
  obtain ⟨h1, ha, nx, h3, h4, h5⟩ := hM
  refine ⟨rfl, fun X hX => ?_⟩
  refine hX _ _ _ _ _ _ _ ?_
  refine b_ne h1 (b := 0) rfl (by omega) (by omega) (fun ha0 => ?_) (fun ha0 => ⟨Or.inl rfl, q0 ha0⟩)
  obtain ⟨a', rfl⟩ : ∃ a', a = a' + 1 := ⟨a - 1, by omega⟩
  have q1 := q1 a' rfl
  have hb := hb (by omega)
  have fin : ∀ k x, k < 12 → x = nI k → k = (nx + 11) % 12 → X 28 [some (.ref 0), some (.ref 110)] [.int x, .ref 0] sh_4_7 σ 0 0 := by
    intro k x hk hx he
    have hr : RS (fun c => σ (2 + 9 * k + c)) (row 0) := by
      have := h5 0 (by omega)
      rw [show (nx + 11 - 0) % 12 = k by omega] at this
      exact this
    have hf1 : ∀ c, 1 ≤ c → mput (mput σ 0 2 x) 0 1 (σ 0 1 - nI 1) c = σ c := fun c hc => by rw [mput_ne (by omega), mput_ne (by omega)]
    have last : ∀ σ2, RS σ2 (row 0) → (∀ c, c < 110 ∨ 119 ≤ c → mback [(110, 9), (2 + 9 * k, 9)] (mput (mput σ 0 2 x) 0 1 (σ 0 1 - nI 1)) σ2 c = mput (mput σ 0 2 x) 0 1 (σ 0 1 - nI 1) c) → Q (.inl (some (.int (nI 1)))) sh_4_7 (mback [(110, 9), (2 + 9 * k, 9)] (mput (mput σ 0 2 x) 0 1 (σ 0 1 - nI 1)) σ2) := by
      intro σ2 g1 f
      refine q1 _ ⟨?_, by omega, k, hk, ?_, fun j hj => RS.congr (h5 (j + 1) (by omega)) (fun c hc => ?_)⟩ (RS.congr g1 (fun c hc => bk1 hc)) (fun c hc => ?_)
      · rw [f 0 (by omega)]
        show σ 0 1 - nI 1 = _
        rw [h1, nI_sub (by omega), Nat.add_sub_cancel]
      · rw [f 0 (by omega)]
        exact hx
      · show mback [(110, 9), (2 + 9 * k, 9)] (mput (mput σ 0 2 x) 0 1 (σ 0 1 - nI 1)) σ2 (2 + 9 * ((k + 11 - j) % 12) + c) = σ (2 + 9 * ((nx + 11 - (j + 1)) % 12) + c)
        rw [f _ (by omega), hf1 _ (by omega), show (k + 11 - j) % 12 = (nx + 11 - (j + 1)) % 12 by omega]
      · rw [f c (by omega)]
        exact hf1 c (by omega)
    refine hX _ _ _ _ _ _ _ ?_
    have hc : k = 0 ∨ k = 1 ∨ k = 2 ∨ k = 3 ∨ k = 4 ∨ k = 5 ∨ k = 6 ∨ k = 7 ∨ k = 8 ∨ k = 9 ∨ k = 10 ∨ k = 11 := by omega
    rcases hc with e | e | e | e | e | e | e | e | e | e | e | e
    · subst e
      refine ⟨vin hx (by decide) (by decide), 2, by show mnx _ x.toNatClampNeg = _; rw [clN hx (by omega)]; rfl, ?_⟩
      refine c_stateCopy hb (RS.congr hr (fun c hc => (congrArg _ (mgl_99 (b1 := 110) (b2 := 2) hc)).trans (hf1 (2 + c) (by omega)))) (fun σ2 g1 g2 => ?_)
      exact ⟨Or.inr rfl, last σ2 g1 (fun c h => bk2 (b := 110) (b2 := 2) (c := c) (σ2 := σ2) g2 h)⟩
    · subst e
      refine ⟨vin hx (by decide) (by decide), 11, by show mnx _ x.toNatClampNeg = _; rw [clN hx (by omega)]; rfl, ?_⟩
      refine c_stateCopy hb (RS.congr hr (fun c hc => (congrArg _ (mgl_99 (b1 := 110) (b2 := 11) hc)).trans (hf1 (11 + c) (by omega)))) (fun σ2 g1 g2 => ?_)
      exact ⟨Or.inr rfl, last σ2 g1 (fun c h => bk2 (b := 110) (b2 := 11) (c := c) (σ2 := σ2) g2 h)⟩
    · subst e
      refine ⟨vin hx (by decide) (by decide), 20, by show mnx _ x.toNatClampNeg = _; rw [clN hx (by omega)]; rfl, ?_⟩
      refine c_stateCopy hb (RS.congr hr (fun c hc => (congrArg _ (mgl_99 (b1 := 110) (b2 := 20) hc)).trans (hf1 (20 + c) (by omega)))) (fun σ2 g1 g2 => ?_)
      exact ⟨Or.inr rfl, last σ2 g1 (fun c h => bk2 (b := 110) (b2 := 20) (c := c) (σ2 := σ2) g2 h)⟩
    · subst e
      refine ⟨vin hx (by decide) (by decide), 29, by show mnx _ x.toNatClampNeg = _; rw [clN hx (by omega)]; rfl, ?_⟩
      refine c_stateCopy hb (RS.congr hr (fun c hc => (congrArg _ (mgl_99 (b1 := 110) (b2 := 29) hc)).trans (hf1 (29 + c) (by omega)))) (fun σ2 g1 g2 => ?_)
      exact ⟨Or.inr rfl, last σ2 g1 (fun c h => bk2 (b := 110) (b2 := 29) (c := c) (σ2 := σ2) g2 h)⟩
    · subst e
      refine ⟨vin hx (by decide) (by decide), 38, by show mnx _ x.toNatClampNeg = _; rw [clN hx (by omega)]; rfl, ?_⟩
      refine c_stateCopy hb (RS.congr hr (fun c hc => (congrArg _ (mgl_99 (b1 := 110) (b2 := 38) hc)).trans (hf1 (38 + c) (by omega)))) (fun σ2 g1 g2 => ?_)
      exact ⟨Or.inr rfl, last σ2 g1 (fun c h => bk2 (b := 110) (b2 := 38) (c := c) (σ2 := σ2) g2 h)⟩
    · subst e
      refine ⟨vin hx (by decide) (by decide), 47, by show mnx _ x.toNatClampNeg = _; rw [clN hx (by omega)]; rfl, ?_⟩
      refine c_stateCopy hb (RS.congr hr (fun c hc => (congrArg _ (mgl_99 (b1 := 110) (b2 := 47) hc)).trans (hf1 (47 + c) (by omega)))) (fun σ2 g1 g2 => ?_)
      exact ⟨Or.inr rfl, last σ2 g1 (fun c h => bk2 (b := 110) (b2 := 47) (c := c) (σ2 := σ2) g2 h)⟩
    · subst e
      refine ⟨vin hx (by decide) (by decide), 56, by show mnx _ x.toNatClampNeg = _; rw [clN hx (by omega)]; rfl, ?_⟩
      refine c_stateCopy hb (RS.congr hr (fun c hc => (congrArg _ (mgl_99 (b1 := 110) (b2 := 56) hc)).trans (hf1 (56 + c) (by omega)))) (fun σ2 g1 g2 => ?_)
      exact ⟨Or.inr rfl, last σ2 g1 (fun c h => bk2 (b := 110) (b2 := 56) (c := c) (σ2 := σ2) g2 h)⟩
    · subst e
      refine ⟨vin hx (by decide) (by decide), 65, by show mnx _ x.toNatClampNeg = _; rw [clN hx (by omega)]; rfl, ?_⟩
      refine c_stateCopy hb (RS.congr hr (fun c hc => (congrArg _ (mgl_99 (b1 := 110) (b2 := 65) hc)).trans (hf1 (65 + c) (by omega)))) (fun σ2 g1 g2 => ?_)
      exact ⟨Or.inr rfl, last σ2 g1 (fun c h => bk2 (b := 110) (b2 := 65) (c := c) (σ2 := σ2) g2 h)⟩
    · subst e
      refine ⟨vin hx (by decide) (by decide), 74, by show mnx _ x.toNatClampNeg = _; rw [clN hx (by omega)]; rfl, ?_⟩
      refine c_stateCopy hb (RS.congr hr (fun c hc => (congrArg _ (mgl_99 (b1 := 110) (b2 := 74) hc)).trans (hf1 (74 + c) (by omega)))) (fun σ2 g1 g2 => ?_)
      exact ⟨Or.inr rfl, last σ2 g1 (fun c h => bk2 (b := 110) (b2 := 74) (c := c) (σ2 := σ2) g2 h)⟩
    · subst e
      refine ⟨vin hx (by decide) (by decide), 83, by show mnx _ x.toNatClampNeg = _; rw [clN hx (by omega)]; rfl, ?_⟩
      refine c_stateCopy hb (RS.congr hr (fun c hc => (congrArg _ (mgl_99 (b1 := 110) (b2 := 83) hc)).trans (hf1 (83 + c) (by omega)))) (fun σ2 g1 g2 => ?_)
      exact ⟨Or.inr rfl, last σ2 g1 (fun c h => bk2 (b := 110) (b2 := 83) (c := c) (σ2 := σ2) g2 h)⟩
    · subst e
      refine ⟨vin hx (by decide) (by decide), 92, by show mnx _ x.toNatClampNeg = _; rw [clN hx (by omega)]; rfl, ?_⟩
      refine c_stateCopy hb (RS.congr hr (fun c hc => (congrArg _ (mgl_99 (b1 := 110) (b2 := 92) hc)).trans (hf1 (92 + c) (by omega)))) (fun σ2 g1 g2 => ?_)
      exact ⟨Or.inr rfl, last σ2 g1 (fun c h => bk2 (b := 110) (b2 := 92) (c := c) (σ2 := σ2) g2 h)⟩
    · subst e
      refine ⟨vin hx (by decide) (by decide), 101, by show mnx _ x.toNatClampNeg = _; rw [clN hx (by omega)]; rfl, ?_⟩
      refine c_stateCopy hb (RS.congr hr (fun c hc => (congrArg _ (mgl_99 (b1 := 110) (b2 := 101) hc)).trans (hf1 (101 + c) (by omega)))) (fun σ2 g1 g2 => ?_)
      exact ⟨Or.inr rfl, last σ2 g1 (fun c h => bk2 (b := 110) (b2 := 101) (c := c) (σ2 := σ2) g2 h)⟩
  refine hX _ _ _ _ _ _ _ ?_
  refine b_le h4 (b := 0) rfl (by omega) (by omega) (fun h => ?_) (fun h => ?_)
  · refine hX _ _ _ _ _ _ _ ?_
    exact fin 11 _ (by omega) rfl (by omega)
  · have e : σ 0 2 - nI 1 = nI (nx - 1) := by rw [h4, nI_sub (by omega)]
    exact fin (nx - 1) _ (by omega) e (by omega)
theorem c_mforget {sh : List mSh} (hsh : sh = sh_4) (hq : Q (.inl none) sh (mput σ 0 1 (nI 0))) : mD (d + 1) 272 [.ref 0] sh σ Q := by
  subst hsh
  refine ⟨rfl, fun X hX => ?_⟩
  refine hX _ _ _ _ _ _ _ ?_
  exact hq
theorem c_rforget {sh : List mSh} (hsh : sh = sh_6) (hq : Q (.inl none) sh (mput σ 0 3 (nI 0))) : mD (d + 1) 289 [.ref 0] sh σ Q := by
  subst hsh
  refine ⟨rfl, fun X hX => ?_⟩
  refine hX _ _ _ _ _ _ _ ?_
  exact ⟨Or.inl rfl, hq⟩
end CME
