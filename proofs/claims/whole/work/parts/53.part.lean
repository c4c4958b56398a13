/-! THE CLASS: a text is parted into things -/
/-- ahead of place a, so many things have begun -/
def TI (σ : mSg) (t : Nat → Int32) (n a th : Nat) : Prop := n ≤ 400 ∧ σ 0 3 = nI n ∧ (∀ k, k < n → σ 1 k = t k) ∧ th ≤ a ∧ a ≤ n ∧ σ 0 4 = nI th ∧ σ 0 5 = nI 0 ∧ (∀ j, j < th → bg t n j < a ∧ σ 2 j = nI (bg t n j)) ∧ (∀ j, j + 1 < th → σ 3 j = nI (te t n (bg t n j))) ∧ (∀ j, j + 1 = th → σ 3 j = nI (min (te t n (bg t n j)) a)) ∧ a ≤ bg t n th
section PRT
variable {d n : Nat} {σ : mSg} {t : Nat → Int32} {Q : mPst}
theorem min_nI {a b c : Nat} (h : c = min a b) : nI (min a b) = nI c := by rw [h]
theorem c_partIntoThings (hn : n ≤ 400) (h3 : σ 0 3 = nI n) (hb : ∀ k, k < n → σ 1 k = t k) (hq : ∀ σ', TK σ' t n 0 → Q (.inl none) sh_8 σ') : mD (d + 2) 334 [.ref 0] sh_8 σ Q := by
  refine ⟨rfl, fun X hX => ?_⟩
  have loop : ∀ j a th σ1 (w : Int32), n - a = j → TI σ1 t n a th → w = nI (if a = 0 then 0 else kd (t (a - 1))) → X 14 [some (.ref 0), some (.int w), some (.int (nI a)), none, none] [] sh_8 σ1 0 0 := by
    intro j
    induction j with
    | zero =>
      intro a th σ1 w hj hI hw
      obtain ⟨b1, b2, b3, b4, b5, b6, b7, b8, b9, b10, b11⟩ := hI
      have ea : a = n := by omega
      refine hX _ _ _ _ _ _ _ ?_
      refine b_ge rfl b2 (by omega) (by omega) (fun _ => ?_) (fun h => by omega)
      refine hX _ _ _ _ _ _ _ ?_
      refine ⟨vin b6 (by omega) (by omega), ?_⟩
      refine ⟨vin b6 (by omega) (by omega), ?_⟩
      have ebg : bg t n th = n := by have := bg_le (t := t) (n := n) th; omega
      refine hq _ ⟨b1, b2, b3, th, by omega, b6, b7, Nat.zero_le _, fun j hj => ?_, fun j hj => by have := (b8 j hj).1; omega, ebg⟩
      show upd (σ1 2) (σ1 0 4).toNatClampNeg (σ1 0 3) j = _ ∧ upd (σ1 3) (σ1 0 4).toNatClampNeg (σ1 0 3) j = _
      rw [clN b6 (by omega), b2]
      by_cases e : j = th
      · subst e
        rw [upd_at, upd_at, ebg, te_n]
        exact ⟨rfl, rfl⟩
      · rw [upd_off e, upd_off e]
        refine ⟨(b8 j (by omega)).2, ?_⟩
        by_cases e2 : j + 1 = th
        · rw [b10 j e2]
          have := te_le (t := t) (bg_le (t := t) (n := n) j)
          rw [min_nI (c := te t n (bg t n j)) (by omega)]
        · exact b9 j (by omega)
    | succ j ih =>
      intro a th σ1 w hj hI hw
      have hI0 := hI
      obtain ⟨b1, b2, b3, b4, b5, b6, b7, b8, b9, b10, b11⟩ := hI
      have hlt : a < n := by omega
      have hk4 := kd_lt (c := t a)
      have hkp : (if a = 0 then 0 else kd (t (a - 1))) < 4 := by
        split
        · omega
        · exact kd_lt
      have e5 : σ1 1 (nI a).toNatClampNeg = t a := by rw [nI_clamp (by omega)]; exact b3 a hlt
      have next : ∀ th2 σ2, TI σ2 t n (a + 1) th2 → X 119 [some (.ref 0), none, some (.int (nI a)), some (.int (nI (kd (t a)))), none] [] sh_8 σ2 0 0 := by
        intro th2 σ2 hI2
        refine hX _ _ _ _ _ _ _ ?_
        have h9 := ih (a + 1) th2 σ2 (nI (kd (t a))) (by omega) hI2 (by rw [if_neg (by omega), Nat.add_sub_cancel])
        rw [← nI_1 a] at h9
        exact h9
      -- a new thing, or a blank
      have fresh : (∀ j, j + 1 = th → te t n (bg t n j) ≤ a) → X 83 [some (.ref 0), none, some (.int (nI a)), some (.int (nI (kd (t a)))), none] [] sh_8 σ1 0 0 := by
        intro hout
        refine hX _ _ _ _ _ _ _ ?_
        refine b_eq rfl (b := 0) rfl (by omega) (by omega) (fun h => ?_) (fun h => ?_)
        · have hB := kd_0.mp h
          refine next th σ1 ⟨b1, b2, b3, by omega, by omega, b6, b7, fun j hj => ⟨by have := (b8 j hj).1; omega, (b8 j hj).2⟩, b9, fun j hj => ?_, ?_⟩
          · rw [b10 j hj]
            have := hout j hj
            rw [min_nI (c := te t n (bg t n j)) (by omega), min_nI (c := te t n (bg t n j)) (by omega)]
          · by_cases e : a = bg t n th
            · exfalso
              have := bg_nb (t := t) (n := n) (j := th) (by omega)
              rw [← e] at this
              exact this hB
            · omega
        · have hB : ¬ kB (t a) = true := fun z => h (kd_0.mpr z)
          have ea : bg t n th = a := by
            by_cases e : a = bg t n th
            · exact e.symm
            · exfalso
              have hst : ∀ st, st ≤ a → bg t n th = run kB t n st → False := by
                intro st h1 h2
                exact hB (run_all (P := kB) (t := t) (n := n) (p := st) (q := a) h1 (by omega)).2
              cases th with
              | zero => exact hst 0 (Nat.zero_le _) rfl
              | succ th => exact hst _ (hout th rfl) rfl
          refine ⟨vin b6 (by omega) (by omega), ?_⟩
          refine ⟨vin b6 (by omega) (by omega), ?_⟩
          refine next (th + 1) _ ⟨b1, b2, b3, by omega, by omega, ?_, b7, fun j hj => ?_, fun j hj => ?_, fun j hj => ?_, ?_⟩
          · show σ1 0 4 + nI 1 = _
            rw [b6]; exact nI_1 th
          · show _ ∧ upd (σ1 2) (σ1 0 4).toNatClampNeg (nI a) j = _
            rw [clN b6 (by omega)]
            by_cases e : j = th
            · subst e
              rw [upd_at, ea]
              exact ⟨by omega, rfl⟩
            · rw [upd_off e]
              exact ⟨by have := (b8 j (by omega)).1; omega, (b8 j (by omega)).2⟩
          · show upd (σ1 3) (σ1 0 4).toNatClampNeg (nI a + nI 1) j = _
            rw [clN b6 (by omega), upd_off (by omega)]
            by_cases e : j + 1 = th
            · rw [b10 j e]
              have := hout j e
              rw [min_nI (c := te t n (bg t n j)) (by omega)]
            · exact b9 j (by omega)
          · show upd (σ1 3) (σ1 0 4).toNatClampNeg (nI a + nI 1) j = _
            have ej : j = th := by omega
            rw [clN b6 (by omega), ej, upd_at, ea]
            have := te_gt (t := t) hlt
            rw [min_nI (c := a + 1) (by omega)]
            exact nI_1 a
          · show _ ≤ nx t n (bg t n th)
            rw [ea]
            exact nx_gt hlt
      -- the last thing goes on
      have goes : ∀ j, j + 1 = th → a < te t n (bg t n j) → X 52 [some (.ref 0), none, some (.int (nI a)), some (.int (nI (kd (t a)))), none] [.int (nI 1)] sh_8 σ1 0 0 := by
        intro j hjt hin
        refine hX _ _ _ _ _ _ _ ?_
        refine ⟨fun h => absurd h (by decide +kernel), fun _ => ?_⟩
        refine b_le b6 (b := 0) rfl (by omega) (by omega) (fun h => by omega) (fun _ => ?_)
        have e4 : σ1 0 4 - nI 1 = nI j := by rw [b6, ← hjt, nI_sub (by omega), Nat.add_sub_cancel]
        refine ⟨vin e4 (by omega) (by omega), ?_⟩
        refine next th _ ⟨b1, b2, b3, by omega, by omega, b6, b7, fun q hq => ⟨by have := (b8 q hq).1; omega, (b8 q hq).2⟩, fun q hq => ?_, fun q hq => ?_, ?_⟩
        · show upd (σ1 3) (σ1 0 4 - nI 1).toNatClampNeg (nI a + nI 1) q = _
          rw [clN e4 (by omega), upd_off (by omega)]
          exact b9 q hq
        · show upd (σ1 3) (σ1 0 4 - nI 1).toNatClampNeg (nI a + nI 1) q = _
          have eq : q = j := by omega
          rw [clN e4 (by omega), eq, upd_at, min_nI (c := a + 1) (by omega)]
          exact nI_1 a
        · rw [← hjt]
          show _ ≤ sk t n (te t n (bg t n j))
          have := sk_ge (t := t) (n := n) (p := te t n (bg t n j))
          omega
      have stop : (∀ j, j + 1 = th → te t n (bg t n j) ≤ a) → X 51 [some (.ref 0), none, some (.int (nI a)), some (.int (nI (kd (t a)))), none] [] sh_8 σ1 0 0 := by
        intro hout
        refine hX _ _ _ _ _ _ _ ?_
        refine hX _ _ _ _ _ _ _ ?_
        refine ⟨fun _ => ?_, fun h => absurd rfl h⟩
        exact fresh hout
      refine hX _ _ _ _ _ _ _ ?_
      refine b_ge rfl b2 (by omega) (by omega) (fun h => by omega) (fun _ => ?_)
      refine ⟨vp_in_nI (by omega) (by omega), ?_⟩
      refine c_kindOf ?_
      rw [e5]
      by_cases hc : ∃ j, j + 1 = th ∧ a < te t n (bg t n j)
      · obtain ⟨j, hj1, hj2⟩ := hc
        obtain ⟨g1, g2⟩ := kd_in (t := t) (b := bg t n j) (q := a) (by have := (b8 j (by omega)).1; omega) (b8 j (by omega)).1 hj2
        have ha0 : ¬ a = 0 := by have := (b8 j (by omega)).1; omega
        rw [if_neg ha0] at hw
        refine b_ne rfl hw (by omega) (by have := kd_lt (c := t (a - 1)); omega) (fun h => absurd g1 h) (fun _ => ?_)
        refine b_eq rfl (b := 1) rfl (by omega) (by omega) (fun _ => ?_) (fun h1 => ?_)
        · refine hX _ _ _ _ _ _ _ ?_
          exact goes j hj1 hj2
        · refine b_ne rfl (b := 2) rfl (by omega) (by omega) (fun h => by omega) (fun _ => ?_)
          refine hX _ _ _ _ _ _ _ ?_
          exact goes j hj1 hj2
      · have hout : ∀ j, j + 1 = th → te t n (bg t n j) ≤ a := fun j h1 => Nat.not_lt.mp (fun h2 => hc ⟨j, h1, h2⟩)
        have key : ¬ (kd (t a) = (if a = 0 then 0 else kd (t (a - 1))) ∧ (kd (t a) = 1 ∨ kd (t a) = 2)) := by
          rintro ⟨k1, k2⟩
          by_cases ha0 : a = 0
          · rw [if_pos ha0] at k1; omega
          · rw [if_neg ha0] at k1
            have hbl : ∀ st, st < a → bg t n th = run kB t n st → False := by
              intro st s1 s2
              have := (run_all (P := kB) (t := t) (n := n) (p := st) (q := a - 1) (by omega) (by omega)).2
              have := kd_0.mpr this
              omega
            cases th with
            | zero => exact hbl 0 (by omega) rfl
            | succ th =>
              by_cases e : te t n (bg t n th) = a
              · exact kd_end (t := t) (n := n) (b := bg t n th) (q := a) (by have := (b8 th (by omega)).1; omega) e.symm hlt ⟨k1, k2⟩
              · exact hbl (te t n (bg t n th)) (by have := hout th rfl; omega) rfl
        refine b_ne rfl hw (by omega) (by omega) (fun h => ?_) (fun h0 => ?_)
        · exact stop hout
        · refine b_eq rfl (b := 1) rfl (by omega) (by omega) (fun h1 => absurd ⟨h0, Or.inl h1⟩ key) (fun h1 => ?_)
          refine b_ne rfl (b := 2) rfl (by omega) (by omega) (fun h2 => ?_) (fun h2 => absurd ⟨h0, Or.inr h2⟩ key)
          exact stop hout
  refine hX _ _ _ _ _ _ _ ?_
  refine loop _ 0 0 _ _ rfl ⟨hn, h3, hb, Nat.le_refl _, Nat.zero_le _, rfl, rfl, fun j hj => by omega, fun j hj => by omega, fun j hj => by omega, Nat.zero_le _⟩ rfl
end PRT
