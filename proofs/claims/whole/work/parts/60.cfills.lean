/-! THE CLASS: what a law says of a street -/
def Lw (σ : mSg) (v : Int32) (ls : List lLn) : Prop := σ 0 0 = v ∧ lOks ls ∧ (cat ls).length ≤ 400 ∧ ((v = -(nI 1) ∧ ls = []) ∨ LDr σ ls [])
theorem lfs_take {ρ : Nat → Int32} {x : Int32 × Int32} {ls : List lLn} {k : Nat} {l : lLn} (h : ls[k]? = some l) : lfs ρ x (ls.take (k + 1)) = lf ρ (lfs ρ x (ls.take k)) l := by
  rw [List.take_add_one, h]
  exact lfs_snoc
theorem max0 {x : Int32} : (if nI 0 < x then x else nI 0) = sMax (nI 0) x := by
  unfold sMax
  by_cases h : x < nI 0
  · rw [if_pos h, if_neg (fun z => Int32.lt_irrefl (Int32.lt_trans h z))]
  · rw [if_neg h]
    by_cases h2 : nI 0 < x
    · rw [if_pos h2]
    · rw [if_neg h2]
      exact Int32.le_antisymm (Int32.not_lt.mp h) (Int32.not_lt.mp h2)
section CFI
variable {d : Nat} {σ : mSg} {m : Nat → Int32} {Q : mPst} {ls : List lLn} {v : Int32}
theorem c_fillsOf {s : Nat} {w : Int32} (hw : w = nI s) (hs : s < 7) (h11 : b01 (m 11)) (hL : Lw σ v ls) (hR : RS (fun j => σ (mgl [(7, 9)] j)) m) (hq : ∀ σ', Lw σ' v ls → RS (fun j => σ' (mgl [(7, 9)] j)) m → Q (.inl (some (.int (sFi ls m s)))) sh_2_7 σ') : mD (d + 4) 258 [.ref 0, .ref 7, .int w] sh_2_7 σ Q := by
  subst hw
  obtain ⟨h1, h2, h3, h4⟩ := hL
  refine ⟨rfl, fun X hX => ?_⟩
  rcases h4 with ⟨h5, h6⟩ | h5
  · refine hX _ _ _ _ _ _ _ ?_
    refine hX _ _ _ _ _ _ _ ?_
    refine ⟨fun _ => ?_, fun h => ?_⟩
    · refine hX _ _ _ _ _ _ _ ?_
      refine qi ?_ (hq σ ⟨h1, h2, h3, Or.inl ⟨h5, h6⟩⟩ hR)
      rw [h6]; rfl
    · have h : ¬ σ 0 0 ≤ nI 0 := h
      rw [h1, h5] at h
      exact absurd (by decide +kernel) h
  · have hv : v = nI ls.length := h1.symm.trans h5.1
    have hlen := h5.2.1
    have loop : ∀ j k σ1, ls.length - k = j → k ≤ ls.length → HW σ1 m ls → X 5 [some (.ref 0), some (.ref 7), some (.int (nI s)), some (.int (lfs (rhoF m s) (nI 1, nI 0) (ls.take k)).1), some (.int (nI k))] [] sh_2_7 σ1 0 0 := by
      intro j
      induction j with
      | zero =>
        intro k σ1 hj hk hH
        refine hX _ _ _ _ _ _ _ ?_
        refine b_ge rfl hH.1.1 (by omega) (by omega) (fun _ => ?_) (fun h => by omega)
        refine hX _ _ _ _ _ _ _ ?_
        refine qi ?_ (hq σ1 ⟨hH.1.1.trans hv.symm, h2, h3, Or.inr hH.1⟩ hH.2)
        unfold sFi
        rw [← max0, List.take_of_length_le (by omega)]
        rfl
      | succ j ih =>
        intro k σ1 hj hk hH
        obtain ⟨l, hl⟩ : ∃ l, ls[k]? = some l := ⟨ls[k], List.getElem?_eq_getElem (by omega)⟩
        have hok := h2 l (List.mem_of_getElem? hl)
        have hk2 := hok.1
        have next : ∀ x σ2, HW σ2 m ls → x = (lfs (rhoF m s) (nI 1, nI 0) (ls.take (k + 1))).1 → X 67 [some (.ref 0), some (.ref 7), some (.int (nI s)), some (.int x), some (.int (nI k))] [] sh_2_7 σ2 0 0 := by
          intro x σ2 hH2 hx
          refine hX _ _ _ _ _ _ _ ?_
          have h9 := ih (k + 1) σ2 (by omega) (by omega) hH2
          rw [← hx, ← nI_1 k] at h9
          exact h9
        rw [lfs_take hl] at next
        have eK : ∀ σ2, HW σ2 m ls → σ2 1 (nI k).toNatClampNeg = nI l.1 := fun σ2 h => by rw [nI_clamp (by omega)]; exact (h.1.2.2.2.2 k l hl).1
        have eA : ∀ σ2, HW σ2 m ls → σ2 2 (nI k).toNatClampNeg = l.2.1 := fun σ2 h => by rw [nI_clamp (by omega)]; exact (h.1.2.2.2.2 k l hl).2.1
        refine hX _ _ _ _ _ _ _ ?_
        refine b_ge rfl hH.1.1 (by omega) (by omega) (fun h => by omega) (fun _ => ?_)
        refine ⟨vp_in_nI (by omega) (by omega), ?_⟩
        refine b_eq (eK σ1 hH) (b := 2) rfl (by omega) (by omega) (fun h => ?_) (fun h => ?_)
        · refine next _ σ1 hH ?_
          unfold lf
          split
          · rw [if_neg (by omega), if_neg (by omega)]
            exact (Int32.add_zero _).symm
          · rfl
        · refine c_holds hl (by omega) h3 hok hs h11 hH (fun hT σ2 hH2 => ?_) (fun hT σ2 hH2 => ?_)
          · refine ⟨fun h => absurd h (by decide +kernel), fun _ => ?_⟩
            refine ⟨vp_in_nI (by omega) (by omega), ?_⟩
            refine b_ne (eK σ2 hH2) (b := 0) rfl (by omega) (by omega) (fun h0 => ?_) (fun h0 => ?_)
            · refine hX _ _ _ _ _ _ _ ?_
              refine ⟨vp_in_nI (by omega) (by omega), ?_⟩
              refine hX _ _ _ _ _ _ _ ?_
              refine next _ σ2 hH2 ?_
              unfold lf
              rw [if_pos hT]
              show _ + -(σ2 2 (nI k).toNatClampNeg) = _ + (if l.1 = 0 then l.2.1 else if l.1 = 1 then -l.2.1 else nI 0)
              rw [eA σ2 hH2, if_neg h0, if_pos (by omega)]
            · refine ⟨vp_in_nI (by omega) (by omega), ?_⟩
              refine hX _ _ _ _ _ _ _ ?_
              refine next _ σ2 hH2 ?_
              unfold lf
              rw [if_pos hT]
              show _ + σ2 2 (nI k).toNatClampNeg = _ + (if l.1 = 0 then l.2.1 else if l.1 = 1 then -l.2.1 else nI 0)
              rw [eA σ2 hH2, if_pos h0]
          · refine ⟨fun _ => ?_, fun h => absurd rfl h⟩
            refine next _ σ2 hH2 ?_
            unfold lf
            rw [if_neg hT]
    refine hX _ _ _ _ _ _ _ ?_
    exact loop _ 0 σ rfl (Nat.zero_le _) ⟨h5, hR⟩
theorem c_tollOf {s : Nat} {w : Int32} (hw : w = nI s) (hs : s < 7) (h11 : b01 (m 11)) (hL : Lw σ v ls) (hR : RS (fun j => σ (mgl [(7, 9)] j)) m) (hq : ∀ σ', Lw σ' v ls → RS (fun j => σ' (mgl [(7, 9)] j)) m → Q (.inl (some (.int (sTo ls m s)))) sh_2_7 σ') : mD (d + 4) 259 [.ref 0, .ref 7, .int w] sh_2_7 σ Q := by
  subst hw
  obtain ⟨h1, h2, h3, h4⟩ := hL
  refine ⟨rfl, fun X hX => ?_⟩
  rcases h4 with ⟨h5, h6⟩ | h5
  · refine hX _ _ _ _ _ _ _ ?_
    refine hX _ _ _ _ _ _ _ ?_
    refine ⟨fun _ => ?_, fun h => ?_⟩
    · refine hX _ _ _ _ _ _ _ ?_
      refine qi ?_ (hq σ ⟨h1, h2, h3, Or.inl ⟨h5, h6⟩⟩ hR)
      rw [h6]; rfl
    · have h : ¬ σ 0 0 ≤ nI 0 := h
      rw [h1, h5] at h
      exact absurd (by decide +kernel) h
  · have hv : v = nI ls.length := h1.symm.trans h5.1
    have hlen := h5.2.1
    have loop : ∀ j k σ1, ls.length - k = j → k ≤ ls.length → HW σ1 m ls → X 5 [some (.ref 0), some (.ref 7), some (.int (nI s)), some (.int (lfs (rhoF m s) (nI 1, nI 0) (ls.take k)).2), some (.int (nI k))] [] sh_2_7 σ1 0 0 := by
      intro j
      induction j with
      | zero =>
        intro k σ1 hj hk hH
        refine hX _ _ _ _ _ _ _ ?_
        refine b_ge rfl hH.1.1 (by omega) (by omega) (fun _ => ?_) (fun h => by omega)
        refine hX _ _ _ _ _ _ _ ?_
        refine qi ?_ (hq σ1 ⟨hH.1.1.trans hv.symm, h2, h3, Or.inr hH.1⟩ hH.2)
        unfold sTo
        rw [List.take_of_length_le (by omega)]
      | succ j ih =>
        intro k σ1 hj hk hH
        obtain ⟨l, hl⟩ : ∃ l, ls[k]? = some l := ⟨ls[k], List.getElem?_eq_getElem (by omega)⟩
        have hok := h2 l (List.mem_of_getElem? hl)
        have hk2 := hok.1
        have next : ∀ x σ2, HW σ2 m ls → x = (lfs (rhoF m s) (nI 1, nI 0) (ls.take (k + 1))).2 → X 46 [some (.ref 0), some (.ref 7), some (.int (nI s)), some (.int x), some (.int (nI k))] [] sh_2_7 σ2 0 0 := by
          intro x σ2 hH2 hx
          refine hX _ _ _ _ _ _ _ ?_
          have h9 := ih (k + 1) σ2 (by omega) (by omega) hH2
          rw [← hx, ← nI_1 k] at h9
          exact h9
        rw [lfs_take hl] at next
        have eK : ∀ σ2, HW σ2 m ls → σ2 1 (nI k).toNatClampNeg = nI l.1 := fun σ2 h => by rw [nI_clamp (by omega)]; exact (h.1.2.2.2.2 k l hl).1
        have eA : ∀ σ2, HW σ2 m ls → σ2 2 (nI k).toNatClampNeg = l.2.1 := fun σ2 h => by rw [nI_clamp (by omega)]; exact (h.1.2.2.2.2 k l hl).2.1
        refine hX _ _ _ _ _ _ _ ?_
        refine b_ge rfl hH.1.1 (by omega) (by omega) (fun h => by omega) (fun _ => ?_)
        refine ⟨vp_in_nI (by omega) (by omega), ?_⟩
        refine b_ne (eK σ1 hH) (b := 2) rfl (by omega) (by omega) (fun h => ?_) (fun h => ?_)
        · refine next _ σ1 hH ?_
          unfold lf
          by_cases hT : lT (rhoF m s) l.2.2 = true
          · rw [if_pos hT]
            show _ = _ + (if l.1 = 2 then l.2.1 else nI 0)
            rw [if_neg h]
            exact (Int32.add_zero _).symm
          · rw [if_neg hT]
        · refine c_holds hl (by omega) h3 hok hs h11 hH (fun hT σ2 hH2 => ?_) (fun hT σ2 hH2 => ?_)
          · refine ⟨fun h => absurd h (by decide +kernel), fun _ => ?_⟩
            refine ⟨vp_in_nI (by omega) (by omega), ?_⟩
            refine next _ σ2 hH2 ?_
            unfold lf
            rw [if_pos hT]
            show _ + σ2 2 (nI k).toNatClampNeg = _ + (if l.1 = 2 then l.2.1 else nI 0)
            rw [eA σ2 hH2, if_pos h]
          · refine ⟨fun _ => ?_, fun h => absurd rfl h⟩
            refine next _ σ2 hH2 ?_
            unfold lf
            rw [if_neg hT]
    refine hX _ _ _ _ _ _ _ ?_
    exact loop _ 0 σ rfl (Nat.zero_le _) ⟨h5, hR⟩
theorem c_lawCopy (hL : Lw (fun j => σ (mgl [(7, 7)] j)) v ls) (hq : ∀ σ', Lw σ' v ls → (∀ j, 7 ≤ j → σ' j = σ j) → Q (.inl none) sh_2_2 σ') : mD (d + 1) 254 [.ref 0, .ref 7] sh_2_2 σ Q := by
  obtain ⟨h1, h2, h3, h4⟩ := hL
  refine ⟨rfl, fun X hX => ?_⟩
  refine hX _ _ _ _ _ _ _ ?_
  refine ⟨⟨by decide +kernel, by decide +kernel, by decide +kernel, by decide +kernel, by decide +kernel⟩, ?_⟩
  refine ⟨⟨by decide +kernel, by decide +kernel, by decide +kernel, by decide +kernel, by decide +kernel⟩, ?_⟩
  refine ⟨⟨by decide +kernel, by decide +kernel, by decide +kernel, by decide +kernel, by decide +kernel⟩, ?_⟩
  refine ⟨⟨by decide +kernel, by decide +kernel, by decide +kernel, by decide +kernel, by decide +kernel⟩, ?_⟩
  refine ⟨⟨by decide +kernel, by decide +kernel, by decide +kernel, by decide +kernel, by decide +kernel⟩, ?_⟩
  refine hq _ ⟨h1, h2, h3, ?_⟩ (fun j hj => ?_)
  · rcases h4 with h5 | ⟨a1, a2, a3, a4, a5⟩
    · exact Or.inl h5
    · refine Or.inr ⟨a1, a2, a3, fun k x hx => ?_, fun i l hl => ?_⟩
      · have hk := (List.getElem?_eq_some_iff.mp hx).1
        rw [List.append_nil] at hk
        exact (cpy_at (f := σ 12) (g := σ 5) (n := 400) (by omega)).trans (a4 k x hx)
      · have hi := (List.getElem?_eq_some_iff.mp hl).1
        obtain ⟨b1, b2, b3, b4⟩ := a5 i l hl
        exact ⟨(cpy_at (f := σ 8) (g := σ 1) (n := 12) (by omega)).trans b1, (cpy_at (f := σ 9) (g := σ 2) (n := 12) (by omega)).trans b2, (cpy_at (f := σ 10) (g := σ 3) (n := 12) (by omega)).trans b3, (cpy_at (f := σ 11) (g := σ 4) (n := 12) (by omega)).trans b4⟩
  · show (if j = 5 then _ else if j = 4 then _ else if j = 3 then _ else if j = 2 then _ else if j = 1 then _ else mput (mput σ 0 0 _) 0 1 _ j) = σ j
    rw [if_neg (by omega), if_neg (by omega), if_neg (by omega), if_neg (by omega), if_neg (by omega), mput_ne (by omega), mput_ne (by omega)]
end CFI
