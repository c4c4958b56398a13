/-! NUMBERS, and the state of the class against the model's row -/
abbrev mD : Nat → mCt := mCT tb cd mi msp
theorem nI_mul (a b : Nat) : nI a * nI b = nI (a * b) := (Int32.ofNat_mul a b).symm
theorem nI_sub {a b : Nat} (h : b ≤ a) : nI a - nI b = nI (a - b) := by
  have e : nI a = nI (a - b) + nI b := by rw [nI_add, Nat.sub_add_cancel h]
  rw [e, Int32.add_sub_cancel]
theorem vin {k N : Nat} {x : Int32} (e : x = nI k) (h : k < N) (hN : N < 2 ^ 31) : vp_in x N := by rw [e]; exact vp_in_nI h hN
theorem clN {k : Nat} {x : Int32} (e : x = nI k) (h : k < 2 ^ 31) : x.toNatClampNeg = k := by rw [e]; exact nI_clamp h
/-- a street, or none -/
def oN : Option Nat → Int32
  | none => -(nI 1)
  | some k => nI k
theorem oN_ne {k : Nat} (h : k < 2 ^ 31) : ¬ nI k = -(nI 1) := by
  intro e
  have := congrArg Int32.toInt e
  rw [nI_toInt h] at this
  have h2 : (-(nI 1) : Int32).toInt = -1 := by decide +kernel
  omega
/-- the place of the model's row where the class has a number of the state -/
def rpT : List (List (Option Nat)) := [[none, none, none, none, none, none, none, some 3, some 4, some 5, some 6, some 0, some 7, some 8, some 9, some 10, some 11, some 13], [some 20, some 21, some 22, some 29, some 30, some 31, some 38, some 39, some 40, some 47, some 48, some 49, some 56, some 57, some 58, some 65, some 66, some 67, some 74, some 75, some 76], [some 23, some 24, some 25, some 26, some 27, some 28, some 32, some 33, some 34, some 35, some 36, some 37, some 41, some 42, some 43, some 44, some 45, some 46, some 50, some 51, some 52, some 53, some 54, some 55, some 59, some 60, some 61, some 62, some 63, some 64, some 68, some 69, some 70, some 71, some 72, some 73, some 77, some 78, some 79, some 80, some 81, some 82], [some 83, some 84, some 85, some 86, some 87, some 88], [some 89, some 90, some 91, some 92], [some 93, some 94, some 95, some 96, some 97, some 98, some 99, some 100, some 101, some 102, some 103, some 104, some 105, some 106, some 107, some 108, some 109, some 110, some 111, some 112, some 113, some 114, some 115, some 116, some 117, some 118, some 119, some 120, some 121, some 122], [none, some 14, some 15, some 16, some 17, some 18, some 19], [none, some 12, none], []]
def riT : List (Nat × Nat) := [(0, 11), (99, 99), (99, 99), (0, 7), (0, 8), (0, 9), (0, 10), (0, 12), (0, 13), (0, 14), (0, 15), (0, 16), (7, 1), (0, 17), (6, 1), (6, 2), (6, 3), (6, 4), (6, 5), (6, 6), (1, 0), (1, 1), (1, 2), (2, 0), (2, 1), (2, 2), (2, 3), (2, 4), (2, 5), (1, 3), (1, 4), (1, 5), (2, 6), (2, 7), (2, 8), (2, 9), (2, 10), (2, 11), (1, 6), (1, 7), (1, 8), (2, 12), (2, 13), (2, 14), (2, 15), (2, 16), (2, 17), (1, 9), (1, 10), (1, 11), (2, 18), (2, 19), (2, 20), (2, 21), (2, 22), (2, 23), (1, 12), (1, 13), (1, 14), (2, 24), (2, 25), (2, 26), (2, 27), (2, 28), (2, 29), (1, 15), (1, 16), (1, 17), (2, 30), (2, 31), (2, 32), (2, 33), (2, 34), (2, 35), (1, 18), (1, 19), (1, 20), (2, 36), (2, 37), (2, 38), (2, 39), (2, 40), (2, 41), (3, 0), (3, 1), (3, 2), (3, 3), (3, 4), (3, 5), (4, 0), (4, 1), (4, 2), (4, 3), (5, 0), (5, 1), (5, 2), (5, 3), (5, 4), (5, 5), (5, 6), (5, 7), (5, 8), (5, 9), (5, 10), (5, 11), (5, 12), (5, 13), (5, 14), (5, 15), (5, 16), (5, 17), (5, 18), (5, 19), (5, 20), (5, 21), (5, 22), (5, 23), (5, 24), (5, 25), (5, 26), (5, 27), (5, 28), (5, 29)]
def rp (c k : Nat) : Option Nat := match mnx rpT c with
  | some l => (match mnx l k with | some x => x | none => none)
  | none => none
theorem rp_all : (List.range 9).all (fun c => (List.range 42).all (fun k => match rp c k with | some i => decide (mnx riT i = some (c, k)) && decide (i < 123) | none => true)) = true := by decide +kernel
theorem rp_lt {c k i : Nat} (h : rp c k = some i) : c < 9 ∧ k < 42 := by
  unfold rp at h
  split at h
  · rename_i l hl
    rw [mnx_eq] at hl
    have hc := (List.getElem?_eq_some_iff.mp hl).1
    split at h
    · rename_i x hx
      rw [mnx_eq] at hx
      have hk := (List.getElem?_eq_some_iff.mp hx).1
      have h9 : rpT.all (fun l => decide (l.length ≤ 42)) = true := by decide +kernel
      have := of_decide_eq_true (List.all_eq_true.mp h9 l (List.mem_of_getElem? hl))
      exact ⟨hc, by omega⟩
    · cases h
  · cases h
theorem rp_inv {c k i : Nat} (h : rp c k = some i) : mnx riT i = some (c, k) ∧ i < 123 := by
  obtain ⟨h1, h2⟩ := rp_lt h
  have h3 := List.all_eq_true.mp (List.all_eq_true.mp rp_all c (List.mem_range.mpr h1)) k (List.mem_range.mpr h2)
  rw [h] at h3
  simp only [Bool.and_eq_true, decide_eq_true_eq] at h3
  exact h3
/-- the ring of the log -/
def RG (σ : mSg) (m : Nat → Int32) : Prop := ∃ nx, nx < 60 ∧ σ 7 2 = nI nx ∧ ∀ a w, a < 60 → w < 5 → σ 8 (5 * ((nx + 59 - a) % 60) + w) = m (123 + 5 * a + w)
def RS (σ : mSg) (m : Nat → Int32) : Prop := (∀ c k i, rp c k = some i → σ c k = m i) ∧ RG σ m
theorem upd_at {f : Nat → Int32} {k : Nat} {v : Int32} : upd f k v k = v := by unfold upd; rw [if_pos rfl]
theorem upd_off {f : Nat → Int32} {k j : Nat} {v : Int32} (h : j ≠ k) : upd f k v j = f j := by unfold upd; rw [if_neg h]
theorem RS.put {σ : mSg} {m : Nat → Int32} {c k i : Nat} (h : RS σ m) (hr : rp c k = some i) (v : Int32) : RS (mput σ c k v) (upd m i v) := by
  obtain ⟨h1, nx, h2, h3, h4⟩ := h
  obtain ⟨g1, g2⟩ := rp_inv hr
  have hne : ∀ c2 k2 i2, rp c2 k2 = some i2 → (c2 = c ∧ k2 = k) ∨ i2 ≠ i := by
    intro c2 k2 i2 hr2
    by_cases e : i2 = i
    · subst e
      have := (rp_inv hr2).1
      rw [g1] at this
      cases this
      exact Or.inl ⟨rfl, rfl⟩
    · exact Or.inr e
  have hc8 : c ≠ 8 := by
    rintro rfl
    have : rp 8 k = none := by unfold rp; rfl
    rw [this] at hr; cases hr
  have hc7 : ¬ (c = 7 ∧ k = 2) := by
    rintro ⟨rfl, rfl⟩
    have : rp 7 2 = none := by decide +kernel
    rw [this] at hr; cases hr
  refine ⟨fun c2 k2 i2 hr2 => ?_, nx, h2, ?_, fun a w ha hw => ?_⟩
  · rcases hne c2 k2 i2 hr2 with ⟨rfl, rfl⟩ | hi
    · rw [hr] at hr2
      cases hr2
      rw [mput_eq, upd_at, upd_at]
    · rw [upd_off hi, ← h1 c2 k2 i2 hr2]
      by_cases hc : c2 = c
      · subst hc
        rw [mput_eq, upd_off]
        rintro rfl
        rw [hr] at hr2
        cases hr2
        exact hi rfl
      · rw [mput_ne hc]
  · rw [← h3]
    by_cases hc : c = 7
    · subst hc
      rw [mput_eq, upd_off (fun e => hc7 ⟨rfl, e.symm⟩)]
    · rw [mput_ne (fun e => hc e.symm)]
  · rw [mput_ne (fun e => hc8 e.symm), h4 a w ha hw, upd_off (by omega)]
theorem RS.get {σ : mSg} {m : Nat → Int32} {c k i : Nat} (h : RS σ m) (hr : rp c k = some i) : σ c k = m i := h.1 c k i hr
theorem rq1 : ∀ s, s < 7 → ∀ w, w < 3 → rp 1 (3 * s + w) = some (20 + 9 * s + w) := by decide +kernel
theorem rq2 : ∀ s, s < 7 → ∀ g, g < 6 → rp 2 (6 * s + g) = some (23 + 9 * s + g) := by decide +kernel
theorem rq3 : ∀ i, i < 6 → rp 3 i = some (83 + i) := by decide +kernel
theorem rq4 : ∀ i, i < 4 → rp 4 i = some (89 + i) := by decide +kernel
theorem rq5 : ∀ i, i < 30 → rp 5 i = some (93 + i) := by decide +kernel
theorem rq6 : ∀ g, g < 6 → rp 6 (g + 1) = some (14 + g) := by decide +kernel
