/-! THE CLASS: State with its log -/
theorem mlo_out {k n c : Nat} (h : c < k ∨ k + n ≤ c) : mlo [(k, n)] c = none := by
  have e : (Nat.ble k c && Nat.blt c (k + n)) = false := by
    cases hb : (Nat.ble k c && Nat.blt c (k + n)) with
    | false => rfl
    | true =>
      obtain ⟨h1, h2⟩ := mit_gen hb
      have h1 := Nat.le_of_ble_eq_true h1
      have h2 : c + 1 ≤ k + n := Nat.le_of_ble_eq_true h2
      omega
  simp only [mlo, e]
theorem mback_out {k n c : Nat} {σ σ2 : mSg} (h : c < k ∨ k + n ≤ c) : mback [(k, n)] σ σ2 c = σ c := by unfold mback; rw [mlo_out h]
theorem mlo_in {k n c : Nat} (h : k ≤ c ∧ c < k + n) : mlo [(k, n)] c = some (c - k) := by
  have e : (Nat.ble k c && Nat.blt c (k + n)) = true := by
    rw [Bool.and_eq_true]
    exact ⟨Nat.ble_eq_true_of_le h.1, Nat.ble_eq_true_of_le h.2⟩
  simp only [mlo, e]
theorem mback_in {k n c : Nat} {σ σ2 : mSg} (h : k ≤ c ∧ c < k + n) : mback [(k, n)] σ σ2 c = σ2 (c - k) := by unfold mback; rw [mlo_in h]
theorem RS.log {σ : mSg} {m : Nat → Int32} (h : RS σ m) : RLg (fun j => σ (mgl [(7, 2)] j)) m := by
  obtain ⟨h1, nx, h2, h3, h4⟩ := h
  exact ⟨h1 7 1 12 rf0.2.2.2.2.2.2.2.2.2.2.2, nx, h2, h3, h4⟩
theorem RS.ofLog {σ σ2 : mSg} {m m2 : Nat → Int32} (h : RS σ m) (hl : RLg σ2 m2) (hm : ∀ i, i < 123 → i ≠ 12 → m2 i = m i) : RS (mback [(7, 2)] σ σ2) m2 := by
  obtain ⟨h1, -⟩ := h
  obtain ⟨g1, nx, g2, g3, g4⟩ := hl
  refine ⟨fun c k i hr => ?_, nx, g2, ?_, fun a w ha hw => ?_⟩
  · obtain ⟨hv, hi⟩ := rp_inv hr
    by_cases e : i = 12
    · subst e
      have : mnx riT 12 = some (7, 1) := by decide +kernel
      rw [this] at hv
      cases hv
      rw [mback_in (by omega)]; exact g1
    · have hc : c ≠ 7 ∧ c ≠ 8 := by
        constructor
        · rintro rfl
          have hk := (rp_lt hr).2
          have : ∀ k, k < 42 → ∀ i, rp 7 k = some i → i = 12 := by
            intro k hk i h
            have h9 : (List.range 42).all (fun k => match rp 7 k with | some i => decide (i = 12) | none => true) = true := by decide +kernel
            have := List.all_eq_true.mp h9 k (List.mem_range.mpr hk)
            rw [h] at this
            exact of_decide_eq_true this
          exact e (this k hk i hr)
        · rintro rfl
          have : rp 8 k = none := by unfold rp; rfl
          rw [this] at hr; cases hr
      rw [mback_out (by omega), h1 c k i hr, hm i hi e]
  · rw [mback_in (by omega)]; exact g3
  · rw [mback_in (by omega)]; exact g4 a w ha hw
theorem sLog_off {m : Nat → Int32} {a b c e f : Int32} (i : Nat) (h : i < 123) (h2 : i ≠ 12) : sLog m a b c e f i = m i := by
  unfold sLog
  rw [if_neg h2, if_neg (by omega), if_neg (by omega), if_neg (by omega), if_neg (by omega), if_neg (by omega), if_neg (by omega)]
/-- grains go out of the heap: the coarsest first, so many steps -/
def sTk (m : Nat → Int32) (hi : Nat) (left : Int32) : Nat → (Nat → Int32) × Int32
  | 0 => (m, left)
  | k + 1 => (upd (sTk m hi left k).1 (13 + (hi - k)) ((sTk m hi left k).1 (13 + (hi - k)) - (if (sTk m hi left k).2 < (sTk m hi left k).1 (13 + (hi - k)) then (sTk m hi left k).2 else (sTk m hi left k).1 (13 + (hi - k)))), (sTk m hi left k).2 - (if (sTk m hi left k).2 < (sTk m hi left k).1 (13 + (hi - k)) then (sTk m hi left k).2 else (sTk m hi left k).1 (13 + (hi - k))))
theorem sTk_off {m : Nat → Int32} {hi : Nat} {left : Int32} {i : Nat} (h : i < 14 ∨ 19 < i) (hh : hi ≤ 6) : ∀ k, k ≤ hi → (sTk m hi left k).1 i = m i
  | 0, _ => rfl
  | k + 1, hk => by
    rw [sTk]
    show upd _ _ _ i = _
    rw [upd_off (by omega)]
    exact sTk_off h hh k (by omega)
def sMin (x y : Int32) : Int32 := if x < y then x else y
def sSt (m : Nat → Int32) (k lo hi : Nat) (what : Int32) : Nat → Int32 :=
  let m1 := (sTk m hi (m (93 + 5 * k + 2)) (hi + 1 - lo)).1
  let m2 := upd m1 9 (sMin (nI 9999) (m1 9 + m1 (93 + 5 * k + 2) * m1 (93 + 5 * k + 3)))
  let m3 := upd m2 (93 + 5 * k + 4) (nI 0)
  sLog m3 (m3 10) (nI k) what (-(nI 1)) (m3 (93 + 5 * k + 2))
section CS4
variable {d : Nat} {σ : mSg} {m : Nat → Int32} {Q : mPst}
theorem c_settle {k lo hi : Nat} {what : Int32} (hk : k < 6) (hlo : m (93 + 5 * k) = nI lo) (hhi : m (93 + 5 * k + 1) = nI hi) (h1 : 1 ≤ lo) (h2 : hi ≤ 6) (h3 : lo ≤ hi) (hR : RS σ m) (hq : ∀ σ', RS σ' (sSt m k lo hi what) → Q (.inl none) sh_7 σ') : mD (d + 4) 327 [.ref 0, .int (nI k), .int what] sh_7 σ Q := by
  refine ⟨rfl, fun X hX => ?_⟩
  have loop : ∀ j i σ', i + j = hi + 1 - lo → RS σ' (sTk m hi (m (93 + 5 * k + 2)) i).1 → X 13 [some (.ref 0), some (.int (nI k)), some (.int what), some (.int (sTk m hi (m (93 + 5 * k + 2)) i).2), some (.int (nI hi - nI i)), none] [] sh_7 σ' 0 0 := by
    intro j
    induction j with
    | zero =>
      intro i σ' hi9 hR'
      have ei : i = hi + 1 - lo := by omega
      have eg : nI hi - nI i = nI lo - nI 1 := by
        have : i + (lo - 1) = hi := by omega
        rw [nI_sub (by omega), nI_sub (by omega)]; congr 1; omega
      refine hX _ _ _ _ _ _ _ ?_
      refine c_lowOf hk hR' ?_
      rw [sTk_off (by omega) h2 i (by omega), hlo]
      refine ⟨fun h => ?_, fun h => ?_⟩
      · refine hX _ _ _ _ _ _ _ ?_
        refine c_priceOf hk hR' ?_
        have hR2 := hR'.put rf0.2.2.2.2.2.2.2.1 (sMin (nI 9999) ((sTk m hi (m (93 + 5 * k + 2)) i).1 9 + (sTk m hi (m (93 + 5 * k + 2)) i).1 (93 + 5 * k + 2) * (sTk m hi (m (93 + 5 * k + 2)) i).1 (93 + 5 * k + 3)))
        rw [← hR'.get rf0.2.2.2.2.2.2.2.1] at hR2
        refine c_close hk hR2 ?_
        intro σ3 hR3
        refine c_manyOf hk hR3 ?_
        have e10 : σ3 0 15 = _ := hR3.get rf0.2.2.2.2.2.2.2.2.1
        refine c_logAdd hR3.log ?_
        intro σ4 hL4
        refine hq _ ?_
        have hR4 := hR3.ofLog hL4 (fun i hi hi2 => sLog_off i hi hi2)
        rw [e10, hR'.get rf0.2.2.2.2.2.2.2.1, ei] at hR4
        exact hR4
      · have h : ¬ nI hi - nI i < nI lo := h
        rw [eg, nI_sub h1] at h
        exact absurd (nI_lt (by omega) (by omega)) h
    | succ j ih =>
      intro i σ' hi9 hR'
      have eg : nI hi - nI i = nI (hi - i) := nI_sub (by omega)
      refine hX _ _ _ _ _ _ _ ?_
      refine c_lowOf hk hR' ?_
      rw [sTk_off (by omega) h2 i (by omega), hlo]
      refine ⟨fun h => ?_, fun h => ?_⟩
      · have h : nI hi - nI i < nI lo := h
        rw [eg] at h
        exact absurd h (nI_nlt (by omega) (by omega))
      · refine ⟨vin eg (by omega) (by omega), vin eg (by omega) (by omega), vin eg (by omega) (by omega), ?_⟩
        have e1 : σ' 6 (hi - i) = (sTk m hi (m (93 + 5 * k + 2)) i).1 (13 + (hi - i)) := hR'.get (rqh (hi - i) (by omega) (by omega))
        have e2 : (nI hi - nI i).toNatClampNeg = hi - i := clN eg (by omega)
        have hR2 := hR'.put (rqh (hi - i) (by omega) (by omega)) ((sTk m hi (m (93 + 5 * k + 2)) i).1 (13 + (hi - i)) - (if (sTk m hi (m (93 + 5 * k + 2)) i).2 < (sTk m hi (m (93 + 5 * k + 2)) i).1 (13 + (hi - i)) then (sTk m hi (m (93 + 5 * k + 2)) i).2 else (sTk m hi (m (93 + 5 * k + 2)) i).1 (13 + (hi - i))))
        have h9 := ih (i + 1) _ (by omega) hR2
        rw [show nI hi - nI (i + 1) = nI hi - nI i - nI 1 by rw [← nI_add, Int32.sub_sub], show (sTk m hi (m (93 + 5 * k + 2)) (i + 1)).2 = (sTk m hi (m (93 + 5 * k + 2)) i).2 - (if (sTk m hi (m (93 + 5 * k + 2)) i).2 < (sTk m hi (m (93 + 5 * k + 2)) i).1 (13 + (hi - i)) then (sTk m hi (m (93 + 5 * k + 2)) i).2 else (sTk m hi (m (93 + 5 * k + 2)) i).1 (13 + (hi - i))) from rfl, ← e1, ← e2] at h9
        exact h9
  refine hX _ _ _ _ _ _ _ ?_
  refine c_manyOf hk hR ?_
  refine c_highOf hk hR ?_
  have h9 := loop (hi + 1 - lo) 0 σ (by omega) hR
  rw [show nI hi - nI 0 = m (93 + 5 * k + 1) by rw [hhi, nI_sub (by omega), Nat.sub_zero]] at h9
  exact h9
end CS4
