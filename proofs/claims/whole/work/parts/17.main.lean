/-! THE THEOREM: what bx asks is enough for the machine -/
section MTM
variable {p : Program} {l : Launch} {e : Env} {R : Room} {s : State} {m : MethodId} {args : Array Value} {below : List Frame} {meth : Method} {c : Code} {WQ : State → Prop}
variable {own : String} {cc : ByteArray} {nL : Nat} {D : va_G} {cy : mCy} {A : Nat → Prop} {S0 n0 d0 : Nat} {ad0 adc adV : Nat → Nat}
variable {tb : Nat → mTe} {NM : Nat} {hh : List (Nat × Nat × Nat × Nat)} {init : Bool} {C : mCt} {mi : Nat → Nat × Nat × Nat} {msp : Nat → List mSh} {scr : Option (Nat × (Nat → Int32))} {mc ms : Nat} {rb : Bool} {J : mJt} {Q : mPst}
/-- a call by its object, a static call, a constructor: to the next instruction -/
theorem mW_call (hy : mHy p s m args c own cc nL D cy A) (hE : mEX adc adV S0 s s.heap) (hAS : ∀ q, A q → S0 ≤ q) (hS0 : S0 ≤ s.heap.size) (had : ∀ i, 1000 ≤ i → ad0 i = adc i) (hRf : 21 + d0 ≤ R.frames) (hRl : 460 + 60 * d0 ≤ R.locals) (hRc : R.cells = mc) (hRs : R.slots = ms)
    (htb : ∀ j, j < NM → mteb (tb j) = true) (hC : ∀ (j : Nat) (as : List Value) (sh : List mSh) (σ : mSg) (Q2 : mPst), j < NM → C j as sh σ Q2 → mMet l D cy S0 adc adV (tb j).1 d0 (mi j).1 (mi j).2.1 as sh σ Q2) (hcls : ∀ j, j < NM → (tb j).2.1 = 0 → (mi j).2.2 = (tb j).2.2.2.1) (htab : c.exceptionTable.toList = tableOf hh)
    (hJ : ∀ (lb : Nat) (L : mLc) (st : List Value) (sh : List mSh) (σ : mSg) (cl sl : Nat), J lb L st sh σ cl sl → mWt p l e R s m args below meth c D cy A nL WQ n0 ad0 lb L st sh σ cl sl)
    (hxo : ∀ (x : Nat) (E : String) (ce : Cell) (q : Addr) (L : mLc) (sh : List mSh) (σ : mSg) (cl sl : Nat) (ad : Nat → Nat) (H : Heap) (locs : List Loc) (ls : Array Slot) (pc : Nat) (rest : List Value), Q (.inr x) sh σ → mnx mxl x = some E → mAg n0 ad ad0 → n0 ≤ sh.length → mRl s D cy A nL ad L sh σ H locs ls → cl ≤ mc → sl ≤ ms → H[q]? = some ce → ce.vm = .none → s.vm.findClass E = some ce.cls → (∀ z ∈ c.exceptionTable.toList, mpas own args s E pc z) → vx_W p l e R s m args below meth c H locs cl sl WQ (F0 m pc ls rest) q)
    {a b k : Nat} {ig : Instr} {ps : List (Nat × Nat)} {pc : Nat} {L : mLc} {st : List Value} {sh : List mSh} {σ : mSg} {cl sl : Nat} {K : List Value → List mSh → mSg → Prop} (hd : decode cc pc = .ok (ig, 3)) (hkind : (ig = .invokevirtual k ∧ (tb a).2.1 = 0 ∧ b = (tb a).2.2.1 + 1 ∧ Cond.methodLink own k (tb a).1.1 ∈ gtbl ∧ mrc sh (mi a).2.2 (mtk b st).reverse = true) ∨ (ig = .invokestatic k ∧ (tb a).2.1 = 1 ∧ b = (tb a).2.2.1 ∧ Cond.methodLink own k (tb a).1.1 ∈ gtbl) ∨ (ig = .invokespecial k ∧ (tb a).2.1 = 2 ∧ b = (tb a).2.2.1 + 1 ∧ (Cond.methodLink own k (tb a).1.1 ∈ gtbl ∨ (own, k, (tb a).1.1) ∈ mnst) ∧ mrc sh (mi a).2.2 (mtk b st).reverse = true))
    (ha : a < NM) (hhk : mhk1 own cc nL pc hh ps = true) (hlen : b ≤ st.length) (hcat : mcat (mdr b st) ≤ 8) (hcl : cl + (mi a).1 ≤ mc) (hsl : sl + (mi a).2.1 ≤ ms)
    (hK : ∀ (v : List Value) (sh2 : List mSh) (σ2 : mSg), K v sh2 σ2 → mWt p l e R s m args below meth c D cy A nL WQ n0 ad0 (pc + 3) L (v ++ mdr b st) sh2 σ2 (cl + (mi a).1) (sl + (mi a).2.1))
    (hcall : (mokV sh.length (mdr b st) = true ∧ mokL sh.length L = true ∧ C a (mtk b st).reverse sh σ (mend J Q ps L (cl + (mi a).1) (sl + (mi a).2.1) K)) ∨
      (∃ as2, mck (mrg sh (mtk b st).reverse) sh (msp a) = true ∧ mrv (mrg sh (mtk b st).reverse) (mtk b st).reverse = some as2 ∧ C a as2 (msp a) (fun j => σ (mgl (mrg sh (mtk b st).reverse) j)) (mloc (msp a) (fun o σ2 => mend J Q ps L (cl + (mi a).1) (sl + (mi a).2.1) K o sh (mback (mrg sh (mtk b st).reverse) σ σ2))))) :
    mWt p l e R s m args below meth c D cy A nL WQ n0 ad0 pc L st sh σ cl sl := by
  intro ad H locs ls hag hn0 hR
  obtain ⟨hx, hbc, hml, hown, hts, hKt, hA⟩ := id hy
  obtain ⟨hP, hD, hS, hL⟩ := id hR
  obtain ⟨hmm, hcw, hini⟩ := mteb_at (htb a ha)
  have hadc : ∀ i, 1000 ≤ i → ad i = adc i := fun i hi => by rw [hag i (Or.inr hi), had i hi]
  have hst : st.map (mvm ad) = ((mtk b st).map (mvm ad)) ++ ((mdr b st).map (mvm ad)) := by rw [← List.map_append, mtk_dr]
  have htl : (mtk b st).length = b := by
    have h1 : ∀ (n : Nat) (l : List Value), n ≤ l.length → (mtk n l).length = n := by
      intro n
      induction n with
      | zero => intro l _; rfl
      | succ n ihn =>
        intro l hl
        cases l with
        | nil => simp at hl
        | cons v l => rw [mtk, List.length_cons, ihn l (by simpa using hl)]
    exact h1 b st hlen
  have hcat2 : (((mdr b st).map (mvm ad)).map fun v => v.category).sum ≤ 8 := by rw [mcat_eq]; exact hcat
  have hfit : cl + (mi a).1 ≤ R.cells ∧ sl + (mi a).2.1 ≤ R.slots := by rw [hRc, hRs]; exact ⟨hcl, hsl⟩
  have hDS : ∀ {ad2 : Nat → Nat} {σ2 : mSg} {sh2 : List mSh}, va_D A (mwd cy ad2 σ2 0 sh2) → va_D (fun q => S0 ≤ q) (mwd cy ad2 σ2 0 sh2) := fun hd2 => hd2.weaken (fun _ _ _ z => hAS _ z)
  -- the run of the callee, from its contract in a world of its own
  have run : ∀ (as2 : List Value) (ad2 : Nat → Nat) (sh2 : List mSh) (σ2 : mSg) (Q2 : mPst), C a as2 sh2 σ2 Q2 → (∀ i, 1000 ≤ i → ad2 i = adc i) → va_P D vwCl (mwd cy ad2 σ2 0 sh2) H → va_D A (mwd cy ad2 σ2 0 sh2) → as2.map (mvm ad2) = (mtk b st).reverse.map (mvm ad) →
      ∃ a0 : Array Value, vx_Run p l e R s m args below meth c H locs cl sl (mi a).1 (mi a).2.1 (F0 m pc ls (st.map (mvm ad))) ((mdr b st).map (mvm ad)) (mQc D cy (va_A (mwd cy ad2 σ2 0 sh2) H.size) sh2.length ad2 Q2 a0) (mXc D cy (va_A (mwd cy ad2 σ2 0 sh2) H.size) sh2.length ad2 Q2) (va_A (mwd cy ad2 σ2 0 sh2) H.size) := by
    intro as2 ad2 sh2 σ2 Q2 hCa had2 hP2 hD2 hvs
    have hM := hC a as2 sh2 σ2 Q2 ha hCa
    rw [hst]
    rcases hkind with ⟨rfl, hk0, hb0, hlk, hrc⟩ | ⟨rfl, hk1, hb1, hlk⟩ | ⟨rfl, hk2, hb2, hlk, hrc⟩
    · obtain ⟨t1, t2, t3, T, N, t4⟩ := mteb_0 (htb a ha) hk0
      cases hrev : (mtk b st).reverse with
      | nil => rw [hrev] at hrc; simp [mrc] at hrc
      | cons v0 As =>
        rw [hrev] at hrc hvs
        cases v0 with
        | ref r =>
          have hAs : As.length = (tb a).2.2.1 := by
            have h9 := congrArg List.length hrev
            rw [List.length_reverse, htl, List.length_cons] at h9
            omega
          have e1 : (mtk b st).map (mvm ad) = (As.map (mvm ad)).reverse ++ [Value.ref (ad r)] := by
            have h9 : mtk b st = (Value.ref r :: As).reverse := by rw [← hrev, List.reverse_reverse]
            rw [h9, List.reverse_cons, List.map_append, List.map_reverse]; rfl
          have hrecv : ∃ cell : Cell, H[ad r]? = some cell ∧ cell.vm.isStatics = false ∧ s.vm.findClass (tb a).1.1.cls = some cell.cls := by
            simp only [mrc] at hrc
            split at hrc
            · rename_i c9 fs9 hsh
              have e9 := Nat.eq_of_beq_eq_true hrc
              rw [hcls a ha hk0] at e9
              subst e9
              rw [mnx_eq] at hsh
              exact va_recv hKt hP t4 (mwd_at hsh)
            · cases hrc
          rw [e1, List.append_assoc]
          exact ⟨_, mrunV hy hR hE hAS hS0 hM had2 t1 hmm hlk t2 t3 hini hcw hrecv hP2 (hDS hD2) hvs (by rw [List.length_map]; exact hAs) hcat2 hd hRf hRl hfit⟩
        | _ => simp [mrc] at hrc
    · have t1 := mteb_1 (htb a ha) hk1
      have e1 : (mtk b st).map (mvm ad) = (((mtk b st).reverse).map (mvm ad)).reverse := by rw [List.map_reverse, List.reverse_reverse]
      rw [e1]
      exact ⟨_, mrunS hy hR hE hAS hS0 hM had2 hmm hlk t1 hini hcw hP2 (hDS hD2) hvs (by rw [List.length_map, List.length_reverse, htl]; exact hb1) hcat2 hd hRf hRl hfit⟩
    · obtain ⟨t1, t2, t3, t4⟩ := mteb_2 (htb a ha) hk2
      cases hrev : (mtk b st).reverse with
      | nil =>
        have h9 := congrArg List.length hrev
        rw [List.length_reverse, htl, hb2] at h9
        simp at h9
      | cons v0 As =>
        rw [hrev] at hrc hvs
        cases v0 with
        | ref r =>
          have hAs : As.length = (tb a).2.2.1 := by
            have h9 := congrArg List.length hrev
            rw [List.length_reverse, htl, List.length_cons] at h9
            omega
          have e1 : (mtk b st).map (mvm ad) = (As.map (mvm ad)).reverse ++ [Value.ref (ad r)] := by
            have h9 : mtk b st = (Value.ref r :: As).reverse := by rw [← hrev, List.reverse_reverse]
            rw [h9, List.reverse_cons, List.map_append, List.map_reverse]; rfl
          rw [e1, List.append_assoc]
          exact ⟨_, mrunI hy hR hE hAS hS0 hM had2 t1 t2 t3 hmm hlk t4 hini hcw hP2 (hDS hD2) hvs (by rw [List.length_map]; exact hAs) hcat2 hd hRf hRl hfit⟩
        | _ => simp [mrc] at hrc
  have hend : ∀ (x : Nat) (E : String) (ce : Cell) (q : Addr) (sh2 : List mSh) (σ2 : mSg) (ad2 : Nat → Nat) (H1 : Heap) (locs1 : List Loc) (rest : List Value), mnx mxl x = some E → mend J Q ps L (cl + (mi a).1) (sl + (mi a).2.1) K (.inr x) sh2 σ2 → mAg n0 ad2 ad0 → n0 ≤ sh2.length → mRl s D cy A nL ad2 L sh2 σ2 H1 locs1 ls → H1[q]? = some ce → ce.vm = .none → s.vm.findClass E = some ce.cls → vx_W p l e R s m args below meth c H1 locs1 (cl + (mi a).1) (sl + (mi a).2.1) WQ (F0 m pc ls rest) q := by
    intro x E ce q sh2 σ2 ad2 H1 locs1 rest hxE hm hag2 hn2 hR2 hce hcv hcl2
    refine mexc_go hx hbc hown hts hE hR2.2.2.2 hxE hce hcv hcl2 hh ps [] (by rw [htab]; rfl) hhk (fun z hz => by cases hz) ?_ ?_
    · intro t ht ls' hL'
      simp only [mend, ht] at hm
      exact hJ t _ _ sh2 σ2 _ _ hm ad2 H1 locs1 ls' hag2 hn2 ⟨hR2.1, hR2.2.1, hR2.2.2.1, hL'⟩
    · intro ht hz
      simp only [mend, ht] at hm
      exact hxo x E ce q L sh2 σ2 _ _ ad2 H1 locs1 ls pc rest hm hxE hag2 hn2 hR2 hcl hsl hce hcv hcl2 hz
  have hret : ∀ (v : Option Value) (sh2 : List mSh) (σ2 : mSg), mend J Q ps L (cl + (mi a).1) (sl + (mi a).2.1) K (.inl v) sh2 σ2 → K v.toList sh2 σ2 := by
    intro v sh2 σ2 hm
    cases v <;> exact hm
  rcases hcall with ⟨hoV, hoL, hCa⟩ | ⟨as2, hck, hrv, hCa⟩
  · obtain ⟨a0, hr⟩ := run _ ad sh σ _ hCa hadc hP hD rfl
    refine mW_same hy hR hr hoV hoL ?_ ?_
    · intro v sh2 σ2 ad2 H1 locs1 hq hag2 hle hR2
      exact hK v.toList sh2 σ2 (hret v sh2 σ2 hq) ad2 H1 locs1 ls (hag.up hag2 hn0) (Nat.le_trans hn0 hle) hR2
    · intro x E ce q sh2 σ2 ad2 H1 locs1 hxE hq hag2 hle hR2 hce hcv hcl2
      exact hend x E ce q sh2 σ2 ad2 H1 locs1 _ hxE hq (hag.up hag2 hn0) (Nat.le_trans hn0 hle) hR2 hce hcv hcl2
  · have hPl : va_P D vwCl (mwd cy (mal (mrg sh (mtk b st).reverse) ad) (fun j => σ (mgl (mrg sh (mtk b st).reverse) j)) 0 (msp a)) H := mpart_P hck hP
    have hDl : va_D A (mwd cy (mal (mrg sh (mtk b st).reverse) ad) (fun j => σ (mgl (mrg sh (mtk b st).reverse) j)) 0 (msp a)) := mpart_D hck hD (fun _ _ z => z)
    obtain ⟨a0, hr⟩ := run as2 (mal (mrg sh (mtk b st).reverse) ad) (msp a) (fun j => σ (mgl (mrg sh (mtk b st).reverse) j)) _ hCa (fun i hi => by rw [← hadc i hi]; unfold mal; rw [if_pos hi]) hPl hDl (mrv_eq (mck_spec hck).2.1 _ _ hrv)
    refine mW_local hy hR hck hr ?_ ?_
    · intro v σ2 H1 locs1 hq hR2
      exact hK v.toList sh _ (hret v sh _ hq) ad H1 locs1 ls hag hn0 hR2
    · intro x E ce q σ2 H1 locs1 hxE hq hR2 hce hcv hcl2
      exact hend x E ce q sh _ ad H1 locs1 _ hxE hq hag hn0 hR2 hce hcv hcl2
end MTM
