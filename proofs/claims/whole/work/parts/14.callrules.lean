/-! CALLS: from a callee's contract to the caller's next instruction -/
section MRN
variable {p : Program} {l : Launch} {e : Env} {R : Room} {s : State} {m : MethodId} {args : Array Value} {below : List Frame} {meth : Method} {c : Code} {H : Heap} {locs : List Loc} {cells slots : Nat} {WQ : State → Prop}
variable {own : String} {cc : ByteArray} {nL : Nat} {D : va_G} {cy : mCy} {A : Nat → Prop} {pc : Nat} {ad : Nat → Nat} {L : mLc} {sh : List mSh} {σ : mSg} {ls : Array Slot} {rest : List Value} {S0 : Nat} {adc adV : Nat → Nat}
variable {q : mMn} {d mc ms idx n : Nat} {as2 As : List Value} {b : Nat} {ad2 : Nat → Nat} {sh2 : List mSh} {σ2 : mSg} {Q2 : mPst}
theorem mrunV (hy : mHy p s m args c own cc nL D cy A) (h : mRl s D cy A nL ad L sh σ H locs ls) (hE : mEX adc adV S0 s s.heap) (hAS : ∀ q, A q → S0 ≤ q) (hS0 : S0 ≤ s.heap.size) (hM : mMet l D cy S0 adc adV q d mc ms as2 sh2 σ2 Q2) (hadc : ∀ i, 1000 ≤ i → ad2 i = adc i) (hh : q.2.2.2.2 = []) (hmm : mmb q n = true)
    (h1 : Cond.methodLink own idx q.1 ∈ gtbl) (h2 : Cond.instanceMethod q.1 ∈ gtbl) (h3 : Cond.selects q.1.cls q.1 q.1 ∈ gtbl) (h4 : Cond.initialized q.1.cls ∈ gtbl) (h5 : mcw q ∈ gtbl) (hrc : ∃ cell : Cell, H[b]? = some cell ∧ cell.vm.isStatics = false ∧ s.vm.findClass q.1.cls = some cell.cls)
    (hP2 : va_P D vwCl (mwd cy ad2 σ2 0 sh2) H) (hD2 : va_D (fun q => S0 ≤ q) (mwd cy ad2 σ2 0 sh2)) (hvs : as2.map (mvm ad2) = .ref b :: As) (hn : As.length = n) (hcat : (rest.map fun v => v.category).sum ≤ 8) (hd : decode cc pc = .ok (.invokevirtual idx, 3)) (hRf : 21 + d ≤ R.frames) (hRl : 460 + 60 * d ≤ R.locals) (hf : cells + mc ≤ R.cells ∧ slots + ms ≤ R.slots) :
    vx_Run p l e R s m args below meth c H locs cells slots mc ms (F0 m pc ls (As.reverse ++ .ref b :: rest)) rest (mQc D cy (va_A (mwd cy ad2 σ2 0 sh2) H.size) sh2.length ad2 Q2 (Value.ref b :: As).toArray) (mXc D cy (va_A (mwd cy ad2 σ2 0 sh2) H.size) sh2.length ad2 Q2) (va_A (mwd cy ad2 σ2 0 sh2) H.size) := by
  obtain ⟨hmm1, hmm2⟩ := mmb_at hmm
  have hw : mcw q :: gtbl = Cond.code q.1 q.2.1 q.2.2.1 q.2.2.2.1 :: gtbl := by unfold mcw; rw [hh]
  have hT : GoodIn gtbl (wsV own idx q.1.cls q.1 (mcw q :: gtbl)) := mgG fun w hw => by
    unfold wsV at hw
    rcases List.mem_append.mp hw with z | z
    · simp only [List.mem_cons, List.not_mem_nil, or_false] at z
      rcases z with rfl | rfl | rfl | rfl <;> assumption
    · rcases List.mem_cons.mp z with rfl | z
      · exact h5
      · exact z
  obtain ⟨hx, hbc, hml, hown, hts, hK, hA⟩ := id hy
  exact vx_runV ⟨hx, hbc, hml, hown, hts⟩ (hM ad2 H.size hadc) (cwV n hts hT hw rfl rfl ⟨rfl, hmm1⟩ ⟨by simp only [mRm]; omega, by simp only [mRm]; omega⟩) ⟨mPr_blind, hrc, mpr_of hy h hE hAS hS0 hP2 hD2 hvs⟩ rfl hn h.2.2.2.1 rfl (lv_room hcat) hd hf
theorem mrunS (hy : mHy p s m args c own cc nL D cy A) (h : mRl s D cy A nL ad L sh σ H locs ls) (hE : mEX adc adV S0 s s.heap) (hAS : ∀ q, A q → S0 ≤ q) (hS0 : S0 ≤ s.heap.size) (hM : mMet l D cy S0 adc adV q d mc ms as2 sh2 σ2 Q2) (hadc : ∀ i, 1000 ≤ i → ad2 i = adc i) (hmm : mmb q n = true)
    (h1 : Cond.methodLink own idx q.1 ∈ gtbl) (h2 : Cond.static q.1 ∈ gtbl) (h4 : Cond.initialized q.1.cls ∈ gtbl) (h5 : mcw q ∈ gtbl)
    (hP2 : va_P D vwCl (mwd cy ad2 σ2 0 sh2) H) (hD2 : va_D (fun q => S0 ≤ q) (mwd cy ad2 σ2 0 sh2)) (hvs : as2.map (mvm ad2) = As) (hn : As.length = n) (hcat : (rest.map fun v => v.category).sum ≤ 8) (hd : decode cc pc = .ok (.invokestatic idx, 3)) (hRf : 21 + d ≤ R.frames) (hRl : 460 + 60 * d ≤ R.locals) (hf : cells + mc ≤ R.cells ∧ slots + ms ≤ R.slots) :
    vx_Run p l e R s m args below meth c H locs cells slots mc ms (F0 m pc ls (As.reverse ++ rest)) rest (mQc D cy (va_A (mwd cy ad2 σ2 0 sh2) H.size) sh2.length ad2 Q2 As.toArray) (mXc D cy (va_A (mwd cy ad2 σ2 0 sh2) H.size) sh2.length ad2 Q2) (va_A (mwd cy ad2 σ2 0 sh2) H.size) := by
  obtain ⟨hmm1, hmm2⟩ := mmb_at hmm
  have hT : GoodIn gtbl (va_wsS own idx q.1 (mcw q :: gtbl)) := mgG fun w hw => by
    unfold va_wsS at hw
    rcases List.mem_append.mp hw with z | z
    · simp only [List.mem_cons, List.not_mem_nil, or_false] at z
      rcases z with rfl | rfl | rfl <;> assumption
    · rcases List.mem_cons.mp z with rfl | z
      · exact h5
      · exact z
  obtain ⟨hx, hbc, hml, hown, hts, hK, hA⟩ := id hy
  cases hh : q.2.2.2.2 with
  | nil =>
    have hw : mcw q :: gtbl = Cond.code q.1 q.2.1 q.2.2.1 q.2.2.2.1 :: gtbl := by unfold mcw; rw [hh]
    exact vx_runS ⟨hx, hbc, hml, hown, hts⟩ (hM ad2 H.size hadc) (cwS' n hts hT hw rfl rfl hmm1 ⟨by simp only [mRm]; omega, by simp only [mRm]; omega⟩) ⟨mPr_blind, mpr_of hy h hE hAS hS0 hP2 hD2 hvs⟩ rfl hn h.2.2.2.1 rfl (lv_room hcat) hd hf
  | cons h0 hs =>
    have hw : mcw q :: gtbl = Cond.codeWith q.1 q.2.1 q.2.2.1 q.2.2.2.1 (h0 :: hs) :: gtbl := by unfold mcw; rw [hh]
    exact vx_runSX (hh := h0 :: hs) ⟨hx, hbc, hml, hown, hts⟩ (hM ad2 H.size hadc) (vx_cwSW n hts hT hw rfl rfl hmm1 ⟨by simp only [mRm]; omega, by simp only [mRm]; omega⟩) ⟨mPr_blind, mpr_of hy h hE hAS hS0 hP2 hD2 hvs⟩ rfl hn h.2.2.2.1 rfl (lv_room hcat) hd hf
theorem mrunI (hy : mHy p s m args c own cc nL D cy A) (h : mRl s D cy A nL ad L sh σ H locs ls) (hE : mEX adc adV S0 s s.heap) (hAS : ∀ q, A q → S0 ≤ q) (hS0 : S0 ≤ s.heap.size) (hM : mMet l D cy S0 adc adV q d mc ms as2 sh2 σ2 Q2) (hadc : ∀ i, 1000 ≤ i → ad2 i = adc i) (hh : q.2.2.2.2 = []) (hret : q.2.2.2.1 = none) (hinit : q.1.name = "<init>") (hmm : mmb q n = true)
    (h1 : Cond.methodLink own idx q.1 ∈ gtbl ∨ (own, idx, q.1) ∈ mnst) (h2 : Cond.instanceMethod q.1 ∈ gtbl) (h4 : Cond.initialized q.1.cls ∈ gtbl) (h5 : mcw q ∈ gtbl)
    (hP2 : va_P D vwCl (mwd cy ad2 σ2 0 sh2) H) (hD2 : va_D (fun q => S0 ≤ q) (mwd cy ad2 σ2 0 sh2)) (hvs : as2.map (mvm ad2) = .ref b :: As) (hn : As.length = n) (hcat : (rest.map fun v => v.category).sum ≤ 8) (hd : decode cc pc = .ok (.invokespecial idx, 3)) (hRf : 21 + d ≤ R.frames) (hRl : 460 + 60 * d ≤ R.locals) (hf : cells + mc ≤ R.cells ∧ slots + ms ≤ R.slots) :
    vx_Run p l e R s m args below meth c H locs cells slots mc ms (F0 m pc ls (As.reverse ++ .ref b :: rest)) rest (mQc D cy (va_A (mwd cy ad2 σ2 0 sh2) H.size) sh2.length ad2 Q2 (Value.ref b :: As).toArray) (mXc D cy (va_A (mwd cy ad2 σ2 0 sh2) H.size) sh2.length ad2 Q2) (va_A (mwd cy ad2 σ2 0 sh2) H.size) := by
  obtain ⟨hmm1, hmm2⟩ := mmb_at hmm
  have hw : mcw q :: gtbl = Cond.code q.1 q.2.1 q.2.2.1 none :: gtbl := by unfold mcw; rw [hh]; simp only [hret]
  have hG : GoodIn gtbl (mcw q :: gtbl) := mgG fun w hw => by
    rcases List.mem_cons.mp hw with rfl | z
    · exact h5
    · exact z
  obtain ⟨hx, hbc, hml, hown, hts, hK, hA⟩ := id hy
  rcases h1 with h1 | h1
  · exact vx_runI ⟨hx, hbc, hml, hown, hts⟩ (hM ad2 H.size hadc) (cwI n hts hG hw rfl rfl (hts _ h4) (hts _ h1) (hts _ h2) hinit hmm1 ⟨by simp only [mRm]; omega, by simp only [mRm]; omega⟩) ⟨mPr_blind, mpr_of hy h hE hAS hS0 hP2 hD2 hvs⟩ rfl hn h.2.2.2.1 rfl (lv_room hcat) hd hf
  · exact vx_runIN ⟨hx, hbc, hml, hown, hts⟩ (hM ad2 H.size hadc) ⟨va_cnB n hts hG hw rfl rfl (hE.2.2.2.2.2.2.2.1 _ h1) (hts _ h4) hmm1 ⟨by simp only [mRm]; omega, by simp only [mRm]; omega⟩, hinit, hts _ h2⟩ ⟨mPr_blind, mpr_of hy h hE hAS hS0 hP2 hD2 hvs⟩ rfl hn h.2.2.2.1 rfl (lv_room hcat) hd hf
end MRN
section MSL
variable {p : Program} {l : Launch} {e : Env} {R : Room} {s : State} {m : MethodId} {args : Array Value} {below : List Frame} {meth : Method} {c : Code} {H : Heap} {locs : List Loc} {cells slots : Nat} {WQ : State → Prop}
variable {own : String} {cc : ByteArray} {nL : Nat} {D : va_G} {cy : mCy} {A : Nat → Prop} {pc : Nat} {ad : Nat → Nat} {L : mLc} {sh : List mSh} {σ : mSg} {ls : Array Slot} {S0 : Nat} {adc adV : Nat → Nat} {mc ms : Nat} {st0 restM : List Value} {Q2 : mPst} {a0 : Array Value}
theorem mA_world {cy : mCy} {ad : Nat → Nat} {σ : mSg} {sh : List mSh} {A : Nat → Prop} {H0 H : Heap} {locs : List Loc} (hD : va_D A (mwd cy ad σ 0 sh)) (hS : va_S A H0 H locs) (hA : ∀ q, H0.size ≤ q → A q) : ∀ q, va_A (mwd cy ad σ 0 sh) H.size q → A q := by
  rintro q (⟨k, e, h⟩ | h)
  · exact hD.2 k (q, e) h
  · exact hA q (Nat.le_trans hS.1 h)
/-- the callee saw all of the world -/
theorem mW_same (hy : mHy p s m args c own cc nL D cy A) (h : mRl s D cy A nL ad L sh σ H locs ls) (hr : vx_Run p l e R s m args below meth c H locs cells slots mc ms (F0 m pc ls st0) (restM.map (mvm ad)) (mQc D cy (va_A (mwd cy ad σ 0 sh) H.size) sh.length ad Q2 a0) (mXc D cy (va_A (mwd cy ad σ 0 sh) H.size) sh.length ad Q2) (va_A (mwd cy ad σ 0 sh) H.size)) (hoV : mokV sh.length restM = true) (hoL : mokL sh.length L = true)
    (kr : ∀ (v : Option Value) (sh2 : List mSh) (σ2 : mSg) (ad2 : Nat → Nat) (H1 : Heap) (locs1 : List Loc), Q2 (.inl v) sh2 σ2 → mAg sh.length ad2 ad → sh.length ≤ sh2.length → mRl s D cy A nL ad2 L sh2 σ2 H1 locs1 ls → W p l e R s m args below meth c H1 locs1 (cells + mc) (slots + ms) WQ (F0 m (pc + 3) ls ((v.toList ++ restM).map (mvm ad2))))
    (kx : ∀ (x : Nat) (E : String) (ce : Cell) (q : Addr) (sh2 : List mSh) (σ2 : mSg) (ad2 : Nat → Nat) (H1 : Heap) (locs1 : List Loc), mnx mxl x = some E → Q2 (.inr x) sh2 σ2 → mAg sh.length ad2 ad → sh.length ≤ sh2.length → mRl s D cy A nL ad2 L sh2 σ2 H1 locs1 ls → H1[q]? = some ce → ce.vm = .none → s.vm.findClass E = some ce.cls → vx_W p l e R s m args below meth c H1 locs1 (cells + mc) (slots + ms) WQ (F0 m pc ls (restM.map (mvm ad))) q) :
    W p l e R s m args below meth c H locs cells slots WQ (F0 m pc ls st0) := by
  obtain ⟨hx, hbc, hml, hown, hts, hK, hA⟩ := id hy
  obtain ⟨hP, hD, hS, hL⟩ := id h
  have hA1 := mA_world hD hS hA
  refine mW_run hr hS hA1 hA1 (fun st o t z => z.2) (fun E st t z => z.2) ?_ ?_
  · rintro v st₀ t H1 locs1 ⟨⟨v2, sh2, σ2, ad2, e1, hq, ⟨hag, hle⟩, hP1, hD1⟩, -⟩ ht hk hS1
    have e2 : v = v2.map (mvm ad2) := by cases e1; rfl
    rw [ht] at hP1
    have hrest : restM.map (mvm ad) = restM.map (mvm ad2) := (mvm_ok hag hoV).symm
    have := kr v2 sh2 σ2 ad2 H1 locs1 hq hag hle ⟨hP1, hD1.weaken (fun _ _ _ z => hA1 _ z), hS1, mLR_ok hag hoL hL⟩
    rw [List.map_append, ← hrest] at this
    rw [e2]
    cases v2 <;> exact this
  · rintro E ce q st₀ t H1 locs1 ⟨⟨x, sh2, σ2, ad2, e1, hq, ⟨hag, hle⟩, hP1, hD1⟩, -⟩ ht hk hS1 hce hcv hcl
    rw [ht] at hP1
    exact kx x E ce q sh2 σ2 ad2 H1 locs1 e1 hq hag hle ⟨hP1, hD1.weaken (fun _ _ _ z => hA1 _ z), hS1, mLR_ok hag hoL hL⟩ hce hcv hcl
/-- the callee saw a part of the world -/
theorem mW_local {rg : List (Nat × Nat)} {shl : List mSh} {K : mOut → mSg → Prop} (hy : mHy p s m args c own cc nL D cy A) (h : mRl s D cy A nL ad L sh σ H locs ls) (hck : mck rg sh shl = true) (hr : vx_Run p l e R s m args below meth c H locs cells slots mc ms (F0 m pc ls st0) (restM.map (mvm ad)) (mQc D cy (va_A (mwd cy (mal rg ad) (fun j => σ (mgl rg j)) 0 shl) H.size) shl.length (mal rg ad) (mloc shl K) a0) (mXc D cy (va_A (mwd cy (mal rg ad) (fun j => σ (mgl rg j)) 0 shl) H.size) shl.length (mal rg ad) (mloc shl K)) (va_A (mwd cy (mal rg ad) (fun j => σ (mgl rg j)) 0 shl) H.size))
    (kr : ∀ (v : Option Value) (σ2 : mSg) (H1 : Heap) (locs1 : List Loc), K (.inl v) σ2 → mRl s D cy A nL ad L sh (mback rg σ σ2) H1 locs1 ls → W p l e R s m args below meth c H1 locs1 (cells + mc) (slots + ms) WQ (F0 m (pc + 3) ls ((v.toList ++ restM).map (mvm ad))))
    (kx : ∀ (x : Nat) (E : String) (ce : Cell) (q : Addr) (σ2 : mSg) (H1 : Heap) (locs1 : List Loc), mnx mxl x = some E → K (.inr x) σ2 → mRl s D cy A nL ad L sh (mback rg σ σ2) H1 locs1 ls → H1[q]? = some ce → ce.vm = .none → s.vm.findClass E = some ce.cls → vx_W p l e R s m args below meth c H1 locs1 (cells + mc) (slots + ms) WQ (F0 m pc ls (restM.map (mvm ad))) q) :
    W p l e R s m args below meth c H locs cells slots WQ (F0 m pc ls st0) := by
  obtain ⟨hx, hbc, hml, hown, hts, hK, hA⟩ := id hy
  obtain ⟨hP, hD, hS, hL⟩ := id h
  obtain ⟨c1, c2, c3, c4⟩ := mck_spec hck
  have hDl : va_D A (mwd cy (mal rg ad) (fun j => σ (mgl rg j)) 0 shl) := mpart_D hck hD (fun _ _ z => z)
  have hA1 := mA_world hDl hS hA
  have key : ∀ (sh2 : List mSh) (σ2 : mSg) (ad2 : Nat → Nat) (H1 : Heap) (locs1 : List Loc), mpre shl sh2 = true → mAg shl.length ad2 (mal rg ad) → va_P D vwCl (mwd cy ad2 σ2 0 sh2) H1 → (∀ q : Nat, q < H.size → ¬ va_A (mwd cy (mal rg ad) (fun j => σ (mgl rg j)) 0 shl) H.size q → H1[q]? = H[q]?) → va_S A s.heap H1 locs1 → mRl s D cy A nL ad L sh (mback rg σ σ2) H1 locs1 ls := by
    intro sh2 σ2 ad2 H1 locs1 hpre hag hP1 hk hS1
    refine ⟨mpart_back hck hP hD hk (mpre_at shl sh2 hpre) hag (fun j sx hsx f => ?_) hP1, mD_eq hD rfl, hS1, hL⟩
    refine mce_ad (n := shl.length) ?_ (fun r hr => hag r (Or.inl hr))
    rw [← c1]
    exact mckA_ok shl 0 c4 j sx hsx
  refine mW_run hr hS hA1 hA1 (fun st o t z => z.2) (fun E st t z => z.2) ?_ ?_
  · rintro v st₀ t H1 locs1 ⟨⟨v2, sh2, σ2, ad2, e1, hq, ⟨hag, hle⟩, hP1, hD1⟩, -⟩ ht hk hS1
    have e2 : v = v2.map (mvm ad2) := by cases e1; rfl
    rw [ht] at hP1
    unfold mloc at hq
    split at hq
    · rename_i hpre
      have hR2 := key sh2 σ2 ad2 H1 locs1 hpre hag hP1 hk hS1
      rw [e2]
      rcases v2 with _ | v2
      · exact kr none σ2 H1 locs1 hq hR2
      · cases v2 with
        | int x => exact kr (some (.int x)) σ2 H1 locs1 hq hR2
        | long x => exact kr (some (.long x)) σ2 H1 locs1 hq hR2
        | _ => exact hq.elim
    · exact hq.elim
  · rintro E ce q st₀ t H1 locs1 ⟨⟨x, sh2, σ2, ad2, e1, hq, ⟨hag, hle⟩, hP1, hD1⟩, -⟩ ht hk hS1 hce hcv hcl
    rw [ht] at hP1
    unfold mloc at hq
    split at hq
    · rename_i hpre
      exact kx x E ce q σ2 H1 locs1 e1 hq (key sh2 σ2 ad2 H1 locs1 hpre hag hP1 hk hS1) hce hcv hcl
    · exact hq.elim
end MSL
