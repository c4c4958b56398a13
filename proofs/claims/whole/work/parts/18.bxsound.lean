/-! THE THEOREM: a stretch of code is sound -/
theorem mit_gen {A B : Bool} (h : (A && B) = true) : A = true ∧ B = true := by rw [Bool.and_eq_true] at h; exact h
theorem mmin_eq (x y : Int32) : (if x < y then x else y) = (if y < x then y else x) := by
  rcases Int32.lt_or_le x y with h | h
  · rw [if_pos h, if_neg (fun z => Int32.lt_irrefl (Int32.lt_trans h z))]
  · by_cases h2 : y < x
    · rw [if_pos h2, if_neg (fun z => Int32.lt_irrefl (Int32.lt_trans h2 z))]
    · rw [if_neg h2]
      have e : x = y := by
        have h3 : x ≤ y := by
          rcases Int32.lt_or_le y x with z | z
          · exact absurd z h2
          · exact z
        exact Int32.le_antisymm h3 h
      rw [e]; split <;> rfl
section MBX
variable {p : Program} {l : Launch} {e : Env} {R : Room} {s : State} {m : MethodId} {args : Array Value} {below : List Frame} {meth : Method} {c : Code} {WQ : State → Prop}
variable {own : String} {cc : ByteArray} {nL : Nat} {D : va_G} {cy : mCy} {A : Nat → Prop} {S0 n0 d0 : Nat} {ad0 adc adV : Nat → Nat}
variable {tb : Nat → mTe} {NM : Nat} {hh : List (Nat × Nat × Nat × Nat)} {init : Bool} {C : mCt} {mi : Nat → Nat × Nat × Nat} {msp : Nat → List mSh} {scr : Option (Nat × (Nat → Int32))} {mc ms : Nat} {rb : Bool} {J : mJt} {Q : mPst}
theorem mW_gen {i : Instr} {len w a d pc : Nat} {L : mLc} {st : List Value} {sh : List mSh} {σ : mSg} {cl sl : Nat} {B : List Value → Prop} (hy : mHy p s m args c own cc nL D cy A) (hE : mEX adc adV S0 s s.heap) (had : ∀ i, 1000 ≤ i → ad0 i = adc i) (hd : mdec cc pc i len = true) (hf : mfp mtx own i len w a d = true)
    (hp : match mpu i a d L st with | some st2 => B st2 | none => False) (hB : ∀ st2, B st2 → mWt p l e R s m args below meth c D cy A nL WQ n0 ad0 (pc + len) L st2 sh σ cl sl) : mWt p l e R s m args below meth c D cy A nL WQ n0 ad0 pc L st sh σ cl sl := by
  intro ad H locs ls hag hn0 hR
  obtain ⟨hx, hbc, hml, hown, hts, hKt, hA⟩ := id hy
  split at hp
  · rename_i st2 h2
    exact mW_pu hx hbc hown hts (fun q hq => by rw [hag _ (Or.inr (Nat.le_add_right _ _)), had _ (Nat.le_add_right _ _)]; exact hE.1 q hq) (mdec_at hd) hf h2 hR.2.2.2 (hB st2 hp ad H locs ls hag hn0 hR)
  · exact hp.elim
theorem mW_slen {k pc i w : Nat} {ad : Nat → Nat} {L : mLc} {sh : List mSh} {σ : mSg} {H : Heap} {locs : List Loc} {ls : Array Slot} {cl sl : Nat} {rest : List Value} (hy : mHy p s m args c own cc nL D cy A) (h : mRl s D cy A nL ad L sh σ H locs ls) (hE : mEX adc adV S0 s s.heap) (hAS : ∀ q, A q → S0 ≤ q) (hRf : 21 + d0 ≤ R.frames) (hRl : 460 + 60 * d0 ≤ R.locals) (hc : cl ≤ R.cells) (hs : sl ≤ R.slots) (hi : ¬ mstr i = []) (hw : mwat w (.methodLink own k yJ0_length_8abf5) = true) (hd : decode cc pc = .ok (.invokevirtual k, 3)) (hcat : (rest.map fun v => v.category).sum ≤ 8)
    (kk : W p l e R s m args below meth c H locs cl sl WQ (F0 m (pc + 3) ls (.int (nI (mstr i).length) :: rest))) : W p l e R s m args below meth c H locs cl sl WQ (F0 m pc ls (.ref (adc (1000 + i)) :: rest)) := by
  obtain ⟨hx, hbc, hml, hown, hts, hKt, hA⟩ := id hy
  obtain ⟨hi1, hi2, hi3⟩ := mstr_ok hi
  have hE2 : mEX adc adV S0 s H := hE.kept fun a ha hna => h.2.2.1.2.1 a ha (fun z => hna (hAS a z))
  have hv := hE2.2.1 i hi1 hi
  have hg := hE2.2.2.1
  have hG : GoodIn gtbl (wsV own k RJ0 yJ0_length_8abf5 wJ0_length_8abf5) := mgG fun w9 hw2 => by
    unfold wsV at hw2
    rcases List.mem_append.mp hw2 with z | z
    · simp only [List.mem_cons, List.not_mem_nil, or_false] at z
      rcases z with rfl | rfl | rfl | rfl
      · exact mwat_in hw
      · exact kM_li
      · exact kM_ls
      · exact kM_si
    · exact (gM_length w9 z).1
  refine W.callR (r := nI (mstr i).length) (W.runV (As := []) (rest := rest) ⟨hx, hbc, hml, hown, hts⟩ (cJ_length l (fun q => S0 ≤ q) (adc (1000 + i)) (adV i) (mstr i) (by omega)) (cwV 0 hts hG rfl rfl rfl (by decide +kernel) ⟨by simp only [mrm]; omega, by simp only [mrm]; omega⟩) ⟨mPs_blind, ?_, fun U hU hW => ⟨rfl, by rw [hU]; exact hv.moved hW.alike, by rw [hU]; exact hg.moved hW.alike⟩⟩ rfl rfl h.2.2.2.1 rfl (lv_room hcat) hd ⟨by omega, by omega⟩) ?_
  · obtain ⟨cell, h1, h2, h3, -⟩ := hv.1
    exact ⟨cell, h1, h2, h3⟩
  exact W.eq rfl kk
theorem mW_char0 {k pc i w : Nat} {ad : Nat → Nat} {L : mLc} {sh : List mSh} {σ : mSg} {H : Heap} {locs : List Loc} {ls : Array Slot} {cl sl : Nat} {rest : List Value} (hy : mHy p s m args c own cc nL D cy A) (h : mRl s D cy A nL ad L sh σ H locs ls) (hE : mEX adc adV S0 s s.heap) (hAS : ∀ q, A q → S0 ≤ q) (hRf : 21 + d0 ≤ R.frames) (hRl : 460 + 60 * d0 ≤ R.locals) (hc : cl ≤ R.cells) (hs : sl ≤ R.slots) (hi : ¬ mstr i = []) (hw : mwat w (.methodLink own k yJ0_charAt_5068e) = true) (hd : decode cc pc = .ok (.invokevirtual k, 3)) (hcat : (rest.map fun v => v.category).sum ≤ 8) {z : Nat} (hz : z < (mstr i).length)
    (kk : W p l e R s m args below meth c H locs cl sl WQ (F0 m (pc + 3) ls (.int (nI ((mstr i).getD z 0)) :: rest))) : W p l e R s m args below meth c H locs cl sl WQ (F0 m pc ls (.int (nI z) :: .ref (adc (1000 + i)) :: rest)) := by
  obtain ⟨hx, hbc, hml, hown, hts, hKt, hA⟩ := id hy
  obtain ⟨hi1, hi2, hi3⟩ := mstr_ok hi
  have hE2 : mEX adc adV S0 s H := hE.kept fun a ha hna => h.2.2.1.2.1 a ha (fun z => hna (hAS a z))
  have hv := hE2.2.1 i hi1 hi
  have hg := hE2.2.2.1
  have hG : GoodIn gtbl (wsV own k RJ0 yJ0_charAt_5068e wJ0_charAt_5068e) := mgG fun w9 hw2 => by
    unfold wsV at hw2
    rcases List.mem_append.mp hw2 with z | z
    · simp only [List.mem_cons, List.not_mem_nil, or_false] at z
      rcases z with rfl | rfl | rfl | rfl
      · exact mwat_in hw
      · exact kM_ci
      · exact kM_cs
      · exact kM_si
    · exact (gM_charAt w9 z).1
  refine W.callR (r := nI ((mstr i).getD z 0)) (W.runV (As := [.int (nI z)]) (rest := rest) ⟨hx, hbc, hml, hown, hts⟩ (cJ_charAt l (fun q => S0 ≤ q) (adc (1000 + i)) (adV i) (mstr i) (by omega) z hz (hi3 z)) (cwV 1 hts hG rfl rfl rfl (by decide +kernel) ⟨by simp only [mrm]; omega, by simp only [mrm]; omega⟩) ⟨mPs_blind, ?_, fun U hU hW => ⟨rfl, by rw [hU]; exact hv.moved hW.alike, by rw [hU]; exact hg.moved hW.alike⟩⟩ rfl rfl h.2.2.2.1 rfl (lv_room hcat) hd ⟨by omega, by omega⟩) ?_
  · obtain ⟨cell, h1, h2, h3, -⟩ := hv.1
    exact ⟨cell, h1, h2, h3⟩
  exact W.eq rfl kk
end MBX
