/-! THE THEOREM, by the instructions -/
theorem mfpb_2 {own : String} {a b : Nat} {P : Prop} (h : mfpb own false a b 2 = true) : P := by
  unfold mfpb at h
  split at h
  · simp at h
  · cases h
theorem mtk_len2 : ∀ (n : Nat) (l : List Value), (mtk n l).length = n → n ≤ l.length
  | 0, _, _ => Nat.zero_le _
  | _ + 1, [], h => by simp [mtk] at h
  | n + 1, v :: l, h => by
    rw [mtk, List.length_cons] at h
    have := mtk_len2 n l (by omega)
    simp only [List.length_cons]; omega
theorem mslen_at {r c n mc ms k : Nat} {K : Int32 → Prop} (h : mslen (Nat.ble 1000 r && (Nat.ble k 8 && (Nat.ble c mc && Nat.ble n ms))) r K) : ∃ i, ¬ mstr i = [] ∧ k ≤ 8 ∧ c ≤ mc ∧ n ≤ ms ∧ r = 1000 + i ∧ K (nI (mstr i).length) := by
  unfold mslen at h
  split at h
  · rename_i hb
    obtain ⟨o1, hb⟩ := mit_gen hb
    obtain ⟨o2, hb⟩ := mit_gen hb
    obtain ⟨o3, o4⟩ := mit_gen hb
    have o1 := Nat.le_of_ble_eq_true o1
    split at h
    · exact h.elim
    · rename_i z cs hz
      exact ⟨r - 1000, by rw [hz]; simp, Nat.le_of_ble_eq_true o2, Nat.le_of_ble_eq_true o3, Nat.le_of_ble_eq_true o4, by omega, by rw [hz]; exact h⟩
  · exact h.elim
theorem mschr_at {r c n mc ms k : Nat} {x : Int32} {K : Int32 → Prop} (h : mschr (Nat.ble 1000 r && (Nat.ble k 8 && (Nat.ble c mc && Nat.ble n ms))) r x K) : ∃ i z, ¬ mstr i = [] ∧ k ≤ 8 ∧ c ≤ mc ∧ n ≤ ms ∧ r = 1000 + i ∧ x = nI z ∧ z < (mstr i).length ∧ K (nI ((mstr i).getD z 0)) := by
  unfold mschr at h
  split at h
  · rename_i hb
    obtain ⟨o1, hb⟩ := mit_gen hb
    obtain ⟨o2, hb⟩ := mit_gen hb
    obtain ⟨o3, o4⟩ := mit_gen hb
    have o1 := Nat.le_of_ble_eq_true o1
    split at h
    · exact h.elim
    · rename_i z cs hz
      have hn : ¬ mstr (r - 1000) = [] := by rw [hz]; simp
      have hl := (mstr_ok hn).2.1
      rw [← hz] at h
      obtain ⟨j, hj, e⟩ := vp_in_of h.1 (by omega)
      subst e
      rw [nI_clamp (by omega)] at h
      exact ⟨r - 1000, j, hn, Nat.le_of_ble_eq_true o2, Nat.le_of_ble_eq_true o3, Nat.le_of_ble_eq_true o4, by omega, rfl, hj, h.2⟩
  · exact h.elim
theorem kM_cp1 : mwat 521 (.native arraycopyName) = true := by decide +kernel
theorem kM_cp2 : mwat 520 (.static arraycopyName) = true := by decide +kernel
theorem kM_cp3 : mwat 130 (.initialized "java/lang/System") = true := by decide +kernel
section MBM
variable {p : Program} {l : Launch} {e : Env} {R : Room} {s : State} {m : MethodId} {args : Array Value} {below : List Frame} {meth : Method} {c : Code} {WQ : State → Prop}
variable {own : String} {cc : ByteArray} {nL : Nat} {D : va_G} {cy : mCy} {A : Nat → Prop} {S0 n0 d0 : Nat} {ad0 adc adV : Nat → Nat}
variable {tb : Nat → mTe} {NM : Nat} {hh : List (Nat × Nat × Nat × Nat)} {init : Bool} {C : mCt} {mi : Nat → Nat × Nat × Nat} {msp : Nat → List mSh} {scr : Option (Nat × (Nat → Int32))} {mc ms : Nat} {rb : Bool} {J : mJt} {Q : mPst}
set_option maxRecDepth 100000 in
set_option maxHeartbeats 4000000 in
theorem mW_bx (hy : mHy p s m args c own cc nL D cy A) (hE : mEX adc adV S0 s s.heap) (hAS : ∀ q, A q → S0 ≤ q) (hS0 : S0 ≤ s.heap.size) (had : ∀ i, 1000 ≤ i → ad0 i = adc i) (hRf : 21 + d0 ≤ R.frames) (hRl : 460 + 60 * d0 ≤ R.locals) (hRc : R.cells = mc) (hRs : R.slots = ms)
    (htb : ∀ j, j < NM → mteb (tb j) = true) (hC : ∀ (j : Nat) (as : List Value) (sh : List mSh) (σ : mSg) (Q2 : mPst), j < NM → C j as sh σ Q2 → mMet l D cy S0 adc adV (tb j).1 d0 (mi j).1 (mi j).2.1 as sh σ Q2) (hcls : ∀ j, j < NM → (tb j).2.1 = 0 → (mi j).2.2 = (tb j).2.2.2.1) (hinit : init = true → meth.name = "<init>") (htab : c.exceptionTable.toList = tableOf hh)
    (hscr : ∀ (N : Nat) (f : Nat → Int32), scr = some (N, f) → va_X (adc 1201) N f s s.heap ∧ adc 1201 < s.heap.size ∧ ¬ A (adc 1201))
    (hJ : ∀ (lb : Nat) (L : mLc) (st : List Value) (sh : List mSh) (σ : mSg) (cl sl : Nat), J lb L st sh σ cl sl → mWt p l e R s m args below meth c D cy A nL WQ n0 ad0 lb L st sh σ cl sl)
    (hri : ∀ (x : Int32) (pc : Nat) (L : mLc) (sh : List mSh) (σ : mSg) (cl sl : Nat), decode cc pc = .ok (.ireturn, 1) → (rb = true → x = 0 ∨ x = 1) → cl ≤ mc → sl ≤ ms → Q (.inl (some (.int x))) sh σ → mWt p l e R s m args below meth c D cy A nL WQ n0 ad0 pc L [.int x] sh σ cl sl)
    (hrl : ∀ (x : Int64) (pc : Nat) (L : mLc) (sh : List mSh) (σ : mSg) (cl sl : Nat), decode cc pc = .ok (.lreturn, 1) → cl ≤ mc → sl ≤ ms → Q (.inl (some (.long x))) sh σ → mWt p l e R s m args below meth c D cy A nL WQ n0 ad0 pc L [.long x] sh σ cl sl)
    (hrv : ∀ (pc : Nat) (L : mLc) (sh : List mSh) (σ : mSg) (cl sl : Nat), decode cc pc = .ok (.return_, 1) → cl ≤ mc → sl ≤ ms → Q (.inl none) sh σ → mWt p l e R s m args below meth c D cy A nL WQ n0 ad0 pc L [] sh σ cl sl)
    (hth : ∀ (k w a : Nat) (ps : List (Nat × Nat)) (pc : Nat) (L : mLc) (st : List Value) (sh : List mSh) (σ : mSg) (cl sl : Nat), decode cc pc = .ok (.new k, 3) → mthb own cc pc k w a ps = true → mcat st ≤ 8 → cl + 1 ≤ mc → sl + 6 ≤ ms → Q (.inr a) sh σ → mWt p l e R s m args below meth c D cy A nL WQ n0 ad0 pc L st sh σ cl sl)
    (hxo : ∀ (x : Nat) (E : String) (ce : Cell) (q : Addr) (L : mLc) (sh : List mSh) (σ : mSg) (cl sl : Nat) (ad : Nat → Nat) (H : Heap) (locs : List Loc) (ls : Array Slot) (pc : Nat) (rest : List Value), Q (.inr x) sh σ → mnx mxl x = some E → mAg n0 ad ad0 → n0 ≤ sh.length → mRl s D cy A nL ad L sh σ H locs ls → cl ≤ mc → sl ≤ ms → H[q]? = some ce → ce.vm = .none → s.vm.findClass E = some ce.cls → (∀ z ∈ c.exceptionTable.toList, mpas own args s E pc z) → vx_W p l e R s m args below meth c H locs cl sl WQ (F0 m pc ls rest) q) :
    ∀ (is : List mIt) (pc : Nat) (L : mLc) (st : List Value) (sh : List mSh) (σ : mSg) (cl sl : Nat), mchk tb NM own cc nL hh init is pc = true → bx C mi msp scr mc ms rb J Q is L st sh σ cl sl → mWt p l e R s m args below meth c D cy A nL WQ n0 ad0 pc L st sh σ cl sl := by
  intro is
  induction is with
  | nil => intro pc L st sh σ cl sl _ h; exact h.elim
  | cons it is ih =>
    obtain ⟨i, len, w, a, b, d, ps⟩ := it
    intro pc L st sh σ cl sl hc h
    obtain ⟨hc, hcs⟩ := mit_gen hc
    obtain ⟨hx, hbc, hml, hown, hts, hKt, hA⟩ := id hy
    have hi := fun L2 st2 sh2 σ2 cl2 sl2 => ih (pc + len) L2 st2 sh2 σ2 cl2 sl2 hcs
    cases i with
    | nop =>
      have e : pc = a := of_decide_eq_true hc
      subst e
      intro ad H locs ls hag hn0 hR
      exact hJ _ _ _ _ _ _ _ h ad H locs ls hag hn0 (mRl_kl b hR)
    | goto off =>
      obtain ⟨hd, hk⟩ := mit_gen hc
      obtain ⟨h1, h2⟩ := mit_gen hk
      have e := of_decide_eq_true h1
      subst e
      intro ad H locs ls hag hn0 hR
      exact lv_goto hx hbc (mdec_at hd) (of_decide_eq_true h2) (hJ _ _ _ _ _ _ _ h ad H locs ls hag hn0 (mRl_kl b hR))
    | ifCond k off =>
      rw [bu_ifCond] at h
      obtain ⟨hd, hk⟩ := mit_gen hc
      obtain ⟨h1, h2⟩ := mit_gen hk
      have e := of_decide_eq_true h1
      subst e
      have h2 := of_decide_eq_true h2
      have hd := mdec_at hd
      split at h
      · rename_i x r
        intro ad H locs ls hag hn0 hR
        cases k with
        | eq => exact lv_if_eq hx hbc hd h2 (fun z => hJ _ _ _ _ _ _ _ (h.1 z) ad H locs ls hag hn0 (mRl_kl b hR)) (fun z => hi _ _ _ _ _ _ (h.2 z) ad H locs ls hag hn0 hR)
        | ne => exact lv_if_ne hx hbc hd h2 (fun z => hJ _ _ _ _ _ _ _ (h.1 z) ad H locs ls hag hn0 (mRl_kl b hR)) (fun z => hi _ _ _ _ _ _ (h.2 z) ad H locs ls hag hn0 hR)
        | lt => exact lv_if_lt hx hbc hd h2 (fun z => hJ _ _ _ _ _ _ _ (h.1 z) ad H locs ls hag hn0 (mRl_kl b hR)) (fun z => hi _ _ _ _ _ _ (h.2 z) ad H locs ls hag hn0 hR)
        | ge => exact lv_if_ge hx hbc hd h2 (fun z => hJ _ _ _ _ _ _ _ (h.1 z) ad H locs ls hag hn0 (mRl_kl b hR)) (fun z => hi _ _ _ _ _ _ (h.2 z) ad H locs ls hag hn0 hR)
        | gt => exact lv_if_gt hx hbc hd h2 (fun z => hJ _ _ _ _ _ _ _ (h.1 z) ad H locs ls hag hn0 (mRl_kl b hR)) (fun z => hi _ _ _ _ _ _ (h.2 z) ad H locs ls hag hn0 hR)
        | le => exact lv_if_le hx hbc hd h2 (fun z => hJ _ _ _ _ _ _ _ (h.1 z) ad H locs ls hag hn0 (mRl_kl b hR)) (fun z => hi _ _ _ _ _ _ (h.2 z) ad H locs ls hag hn0 hR)
      · exact h.elim
    | if_icmp k off =>
      rw [bu_if_icmp] at h
      obtain ⟨hd, hk⟩ := mit_gen hc
      obtain ⟨h1, h2⟩ := mit_gen hk
      have e := of_decide_eq_true h1
      subst e
      have h2 := of_decide_eq_true h2
      have hd := mdec_at hd
      split at h
      · rename_i y x r
        intro ad H locs ls hag hn0 hR
        cases k with
        | eq => exact lv_icmp_eq hx hbc hd h2 (fun z => hJ _ _ _ _ _ _ _ (h.1 z) ad H locs ls hag hn0 (mRl_kl b hR)) (fun z => hi _ _ _ _ _ _ (h.2 z) ad H locs ls hag hn0 hR)
        | ne => exact lv_icmp_ne hx hbc hd h2 (fun z => hJ _ _ _ _ _ _ _ (h.1 z) ad H locs ls hag hn0 (mRl_kl b hR)) (fun z => hi _ _ _ _ _ _ (h.2 z) ad H locs ls hag hn0 hR)
        | lt => exact lv_icmp_lt hx hbc hd h2 (fun z => hJ _ _ _ _ _ _ _ (h.1 z) ad H locs ls hag hn0 (mRl_kl b hR)) (fun z => hi _ _ _ _ _ _ (h.2 z) ad H locs ls hag hn0 hR)
        | ge => exact lv_icmp_ge hx hbc hd h2 (fun z => hJ _ _ _ _ _ _ _ (h.1 z) ad H locs ls hag hn0 (mRl_kl b hR)) (fun z => hi _ _ _ _ _ _ (h.2 z) ad H locs ls hag hn0 hR)
        | gt => exact lv_icmp_gt hx hbc hd h2 (fun z => hJ _ _ _ _ _ _ _ (h.1 z) ad H locs ls hag hn0 (mRl_kl b hR)) (fun z => hi _ _ _ _ _ _ (h.2 z) ad H locs ls hag hn0 hR)
        | le => exact lv_icmp_le hx hbc hd h2 (fun z => hJ _ _ _ _ _ _ _ (h.1 z) ad H locs ls hag hn0 (mRl_kl b hR)) (fun z => hi _ _ _ _ _ _ (h.2 z) ad H locs ls hag hn0 hR)
      · exact h.elim
    | tableswitch df lo hi2 offs =>
      rw [bu_tableswitch] at h
      obtain ⟨hd, hk⟩ := mit_gen hc
      obtain ⟨h1, hk⟩ := mit_gen hk
      obtain ⟨h2, h3⟩ := mit_gen hk
      have h1 := of_decide_eq_true h1
      have h2 := of_decide_eq_true h2
      have h3 := of_decide_eq_true h3
      have hd := mdec_at hd
      split at h
      · rename_i x r
        intro ad H locs ls hag hn0 hR
        by_cases hr : x.toInt < lo ∨ hi2 < x.toInt
        · exact lv_tableOut hx hbc hd hr h1 (hJ _ _ _ _ _ _ _ (h.1 hr) ad H locs ls hag hn0 (mRl_kl b hR))
        · have hk1 : (x.toInt - lo).toNat < ps.length := by omega
          have hk2 : offs.toList.length = ps.length := by simpa using congrArg List.length h3
          obtain ⟨t9, m9⟩ : Nat × Nat := ps[(x.toInt - lo).toNat]
          have e9 : ps[(x.toInt - lo).toNat]? = some (ps[(x.toInt - lo).toNat]) := List.getElem?_eq_getElem hk1
          have e8 : offs.toList[(x.toInt - lo).toNat]? = some (offs.toList[(x.toInt - lo).toNat]'(by omega)) := List.getElem?_eq_getElem (by omega)
          have e7 := congrArg (fun z => z[(x.toInt - lo).toNat]?) h3
          simp only [List.getElem?_map, e8, e9, Option.map_some] at e7
          have e6 := Option.some.inj e7
          have hj := msw_at ps lo h.2 (x.toInt - lo).toNat (ps[(x.toInt - lo).toNat]).1 (ps[(x.toInt - lo).toNat]).2 e9 (by omega)
          exact lv_tableIn hx hbc hd (fun z => hr (Or.inl z)) (fun z => hr (Or.inr z)) (by rw [← Array.getElem?_toList]; exact e8) e6 (hJ _ _ _ _ _ _ _ hj ad H locs ls hag hn0 (mRl_kl _ hR))
      · exact h.elim
    | istore k =>
      rw [bu_istore] at h
      obtain ⟨hd, hk⟩ := mit_gen hc
      obtain ⟨h1, h2⟩ := mit_gen hk
      have e := of_decide_eq_true h1
      subst e
      split at h
      · intro ad H locs ls hag hn0 hR
        exact lv_istore hx hbc (mdec_at hd) (mLR_has hR.2.2.2) (of_decide_eq_true h2) rfl (fun ls' hl' => hi _ _ _ _ _ _ h ad H locs ls' hag hn0 ⟨hR.1, hR.2.1, hR.2.2.1, mLR_st1 hl'⟩)
      · exact h.elim
    | istore_n k =>
      rw [bu_istore_n] at h
      obtain ⟨hd, hk⟩ := mit_gen hc
      obtain ⟨h1, h2⟩ := mit_gen hk
      have e := of_decide_eq_true h1
      subst e
      split at h
      · intro ad H locs ls hag hn0 hR
        exact lv_istore_n hx hbc (mdec_at hd) rfl (mLR_has hR.2.2.2) (of_decide_eq_true h2) rfl (fun ls' hl' => hi _ _ _ _ _ _ h ad H locs ls' hag hn0 ⟨hR.1, hR.2.1, hR.2.2.1, mLR_st1 hl'⟩)
      · exact h.elim
    | astore k =>
      rw [bu_astore] at h
      obtain ⟨hd, hk⟩ := mit_gen hc
      obtain ⟨h1, h2⟩ := mit_gen hk
      have e := of_decide_eq_true h1
      subst e
      split at h
      · intro ad H locs ls hag hn0 hR
        exact lv_astore hx hbc (mdec_at hd) (mLR_has hR.2.2.2) (of_decide_eq_true h2) rfl (fun ls' hl' => hi _ _ _ _ _ _ h ad H locs ls' hag hn0 ⟨hR.1, hR.2.1, hR.2.2.1, mLR_st1 hl'⟩)
      · exact h.elim
    | astore_n k =>
      rw [bu_astore_n] at h
      obtain ⟨hd, hk⟩ := mit_gen hc
      obtain ⟨h1, h2⟩ := mit_gen hk
      have e := of_decide_eq_true h1
      subst e
      split at h
      · intro ad H locs ls hag hn0 hR
        exact lv_astore_n hx hbc (mdec_at hd) rfl (mLR_has hR.2.2.2) (of_decide_eq_true h2) rfl (fun ls' hl' => hi _ _ _ _ _ _ h ad H locs ls' hag hn0 ⟨hR.1, hR.2.1, hR.2.2.1, mLR_st1 hl'⟩)
      · exact h.elim
    | lstore k =>
      rw [bu_lstore] at h
      obtain ⟨hd, hk⟩ := mit_gen hc
      obtain ⟨h1, h2⟩ := mit_gen hk
      have e := of_decide_eq_true h1
      subst e
      split at h
      · intro ad H locs ls hag hn0 hR
        exact lv_lstore hx hbc (mdec_at hd) (mLR_has hR.2.2.2) (of_decide_eq_true h2) rfl (fun ls' hl' => hi _ _ _ _ _ _ h ad H locs ls' hag hn0 ⟨hR.1, hR.2.1, hR.2.2.1, mLR_st2 hl'⟩)
      · exact h.elim
    | lstore_n k =>
      rw [bu_lstore_n] at h
      obtain ⟨hd, hk⟩ := mit_gen hc
      obtain ⟨h1, h2⟩ := mit_gen hk
      have e := of_decide_eq_true h1
      subst e
      split at h
      · intro ad H locs ls hag hn0 hR
        exact lv_lstore_n hx hbc (mdec_at hd) rfl (mLR_has hR.2.2.2) (of_decide_eq_true h2) rfl (fun ls' hl' => hi _ _ _ _ _ _ h ad H locs ls' hag hn0 ⟨hR.1, hR.2.1, hR.2.2.1, mLR_st2 hl'⟩)
      · exact h.elim
    | iinc k z =>
      rw [bu_iinc] at h
      obtain ⟨hd, hk⟩ := mit_gen hc
      obtain ⟨h1, hk⟩ := mit_gen hk
      obtain ⟨h2, h3⟩ := mit_gen hk
      have e := of_decide_eq_true h1
      subst e
      have h3 := of_decide_eq_true h3
      split at h
      · rename_i x hx9
        intro ad H locs ls hag hn0 hR
        rw [mnx_eq] at hx9
        have hin : (k, Value.int x) ∈ mas ad L := mas_mem.mpr ⟨.int x, hx9, rfl⟩
        obtain ⟨k9, hk9, e9⟩ := List.getElem_of_mem hin
        rcases d with _ | d
        · exact lv_iinc hx hbc (mdec_at hd) (mLR_has hR.2.2.2) (k := k9) (by rw [List.getElem?_eq_getElem hk9, e9]) (v := x + nI a) (by rw [h3]; rfl) (of_decide_eq_true h2) rfl (fun ls' hl' => hi _ _ _ _ _ _ h ad H locs ls' hag hn0 ⟨hR.1, hR.2.1, hR.2.2.1, mLR_st1 hl'⟩)
        · exact lv_iinc hx hbc (mdec_at hd) (mLR_has hR.2.2.2) (k := k9) (by rw [List.getElem?_eq_getElem hk9, e9]) (v := x - nI a) (by rw [h3, Int32.sub_eq_add_neg]; rfl) (of_decide_eq_true h2) rfl (fun ls' hl' => hi _ _ _ _ _ _ h ad H locs ls' hag hn0 ⟨hR.1, hR.2.1, hR.2.2.1, mLR_st1 hl'⟩)
      · exact h.elim
    | idiv =>
      rw [bu_idiv] at h
      obtain ⟨hd, hk⟩ := mit_gen hc
      have e := of_decide_eq_true hk
      subst e
      split at h
      · intro ad H locs ls hag hn0 hR
        exact lv_idiv hx hbc (mdec_at hd) h.1 (hi _ _ _ _ _ _ h.2 ad H locs ls hag hn0 hR)
      · exact h.elim
    | irem =>
      rw [bu_irem] at h
      obtain ⟨hd, hk⟩ := mit_gen hc
      have e := of_decide_eq_true hk
      subst e
      split at h
      · intro ad H locs ls hag hn0 hR
        exact lv_irem hx hbc (mdec_at hd) h.1 (hi _ _ _ _ _ _ h.2 ad H locs ls hag hn0 hR)
      · exact h.elim
    | ldiv =>
      rw [bu_ldiv] at h
      obtain ⟨hd, hk⟩ := mit_gen hc
      have e := of_decide_eq_true hk
      subst e
      split at h
      · intro ad H locs ls hag hn0 hR
        exact lv_ldiv hx hbc (mdec_at hd) h.1 (hi _ _ _ _ _ _ h.2 ad H locs ls hag hn0 hR)
      · exact h.elim
    | getstatic k =>
      rw [bu_getstatic] at h
      obtain ⟨hd, hk⟩ := mit_gen hc
      obtain ⟨h1, h2⟩ := mit_gen hk
      have e := of_decide_eq_true h1
      subst e
      intro ad H locs ls hag hn0 hR
      have e2 : ad 1200 = adc 1200 := by rw [hag 1200 (Or.inr (by omega)), had 1200 (by omega)]
      refine va_gets hx hbc (hE.2.2.2.1.1.narrow hAS) hR.2.2.1 hown (mword hts h2) (fun _ z => z) (mdec_at hd) ?_
      rw [← e2]
      exact hi _ _ _ _ _ _ h ad H locs ls hag hn0 hR
    | getfield k =>
      rw [bu_getfield] at h
      obtain ⟨hd, hk⟩ := mit_gen hc
      obtain ⟨h1, h2⟩ := mit_gen hk
      have e := of_decide_eq_true h1
      subst e
      split at h
      · rename_i r rest
        split at h
        · rename_i k9 fs hsh
          split at h
          · rename_i hb9
            have e9 := Nat.eq_of_beq_eq_true hb9
            subst e9
            intro ad H locs ls hag hn0 hR
            split at h
            · rename_i hf
              exact mW_get hy hR (mdec_at hd) h2 hsh hf (hi _ _ _ _ _ _ h ad H locs ls hag hn0 hR)
            · rename_i q hf
              exact mW_get hy hR (mdec_at hd) h2 hsh hf (hi _ _ _ _ _ _ h ad H locs ls hag hn0 hR)
            · exact h.elim
          · exact h.elim
        · exact h.elim
      · exact h.elim
    | putfield k =>
      rw [bu_putfield] at h
      obtain ⟨hd, hk⟩ := mit_gen hc
      obtain ⟨h1, hk⟩ := mit_gen hk
      obtain ⟨h2, h3⟩ := mit_gen hk
      have e := of_decide_eq_true h1
      subst e
      split at h
      · rename_i x r rest
        split at h
        · rename_i k9 fs hsh
          split at h
          · rename_i hb9
            have e9 := Nat.eq_of_beq_eq_true hb9
            subst e9
            intro ad H locs ls hag hn0 hR
            split at h
            · rename_i hf
              split at h
              · exact mW_put hy hR (mdec_at hd) h2 h3 hsh hf (Or.inl rfl) (fun H1 locs1 hR1 => hi _ _ _ _ _ _ h ad H1 locs1 ls hag hn0 hR1)
              · exact mW_put hy hR (mdec_at hd) h2 h3 hsh hf (Or.inr ⟨rfl, h.1⟩) (fun H1 locs1 hR1 => hi _ _ _ _ _ _ h.2 ad H1 locs1 ls hag hn0 hR1)
              · exact h.elim
            · exact h.elim
          · exact h.elim
        · exact h.elim
      · rename_i q r rest
        split at h
        · rename_i k9 fs hsh
          split at h
          · rename_i hb9
            obtain ⟨hb9, hb8⟩ := mit_gen hb9
            have e9 := Nat.eq_of_beq_eq_true hb9
            subst e9
            intro ad H locs ls hag hn0 hR
            split at h
            · rename_i y hf
              split at h
              · have hi9 : init = true := by
                  cases init with
                  | true => rfl
                  | false => exact (mfpb_2 h3)
                subst hi9
                exact mW_putR hy hR (mdec_at hd) h2 (hinit rfl) h3 hsh hf (fun H1 locs1 hR1 => hi _ _ _ _ _ _ h ad H1 locs1 ls hag (by rw [mse_eq, List.length_set]; exact hn0) hR1)
              · exact h.elim
            · exact h.elim
          · exact h.elim
        · exact h.elim
      · exact h.elim
    | iaload =>
      rw [bu_iaload] at h
      obtain ⟨hd, hk⟩ := mit_gen hc
      have e := of_decide_eq_true hk
      subst e
      split at h
      · rename_i x r rest
        intro ad H locs ls hag hn0 hR
        split at h
        · rename_i hr9
          have hr9 := Nat.le_of_ble_eq_true hr9
          have hra : ad r = adc r := by rw [hag r (Or.inr hr9), had r hr9]
          split at h
          · rename_i N f hm
            have hcase : (r = 1200 ∧ N = 4 ∧ f = mrat) ∨ (r = 1201 ∧ scr = some (N, f)) := by
              unfold mrow at hm
              split at hm
              · cases hm; exact Or.inl ⟨rfl, rfl, rfl⟩
              · exact Or.inr ⟨rfl, hm⟩
              · cases hm
            rcases hcase with ⟨rfl, rfl, rfl⟩ | ⟨rfl, hs9⟩
            · have hgo := hi _ _ _ _ _ _ h.2 ad H locs ls hag hn0 hR
              show W p l e R s m args below meth c H locs cl sl WQ (F0 m pc ls (.int x :: .ref (ad 1200) :: rest.map (mvm ad)))
              rw [hra]
              exact va_ti hx hbc (hE.2.2.2.1.2.narrow hAS) hR.2.2.1 h.1 rfl (mdec_at hd) hgo
            · have hgo := hi _ _ _ _ _ _ h.2 ad H locs ls hag hn0 hR
              obtain ⟨g1, g2, g3⟩ := hscr N f hs9
              show W p l e R s m args below meth c H locs cl sl WQ (F0 m pc ls (.int x :: .ref (ad 1201) :: rest.map (mvm ad)))
              rw [hra]
              exact va_sld hx hbc g1 g2 g3 hR.2.2.1 h.1 (mdec_at hd) hgo
          · exact h.elim
        · split at h
          · rename_i N hsh
            exact mW_iald hy hR (mdec_at hd) hsh h.1 (hi _ _ _ _ _ _ h.2 ad H locs ls hag hn0 hR)
          · exact h.elim
      · exact h.elim
    | iastore =>
      rw [bu_iastore] at h
      obtain ⟨hd, hk⟩ := mit_gen hc
      have e := of_decide_eq_true hk
      subst e
      split at h
      · intro ad H locs ls hag hn0 hR
        split at h
        · rename_i N hsh
          exact mW_iast hy hR (mdec_at hd) hsh h.1 (fun H1 locs1 hR1 => hi _ _ _ _ _ _ h.2 ad H1 locs1 ls hag hn0 hR1)
        · exact h.elim
      · exact h.elim
    | laload =>
      rw [bu_laload] at h
      obtain ⟨hd, hk⟩ := mit_gen hc
      have e := of_decide_eq_true hk
      subst e
      split at h
      · intro ad H locs ls hag hn0 hR
        split at h
        · rename_i N hsh
          exact mW_lald hy hR (mdec_at hd) hsh h.1 (hi _ _ _ _ _ _ h.2 ad H locs ls hag hn0 hR)
        · exact h.elim
      · exact h.elim
    | lastore =>
      rw [bu_lastore] at h
      obtain ⟨hd, hk⟩ := mit_gen hc
      have e := of_decide_eq_true hk
      subst e
      split at h
      · intro ad H locs ls hag hn0 hR
        split at h
        · rename_i N hsh
          exact mW_last hy hR (mdec_at hd) hsh h.1 h.2.1 (fun H1 locs1 hR1 => hi _ _ _ _ _ _ h.2.2 ad H1 locs1 ls hag hn0 hR1)
        · exact h.elim
      · exact h.elim
    | aaload =>
      rw [bu_aaload] at h
      obtain ⟨hd, hk⟩ := mit_gen hc
      have e := of_decide_eq_true hk
      subst e
      split at h
      · intro ad H locs ls hag hn0 hR
        split at h
        · rename_i rs hsh
          obtain ⟨h1, q, h2, h3⟩ := h
          exact mW_aald hy hR (mdec_at hd) hsh h1 h2 (hi _ _ _ _ _ _ h3 ad H locs ls hag hn0 hR)
        · exact h.elim
      · exact h.elim
    | aastore =>
      rw [bu_aastore] at h
      obtain ⟨hd, hk⟩ := mit_gen hc
      have e := of_decide_eq_true hk
      subst e
      split at h
      · intro ad H locs ls hag hn0 hR
        split at h
        · rename_i rs fs hsh hsq
          split at h
          · exact mW_aast hy hR (mdec_at hd) hsh hsq h.1 (fun H1 locs1 hR1 => hi _ _ _ _ _ _ h.2 ad H1 locs1 ls hag (by rw [mse_eq, List.length_set]; exact hn0) hR1)
          · exact h.elim
        · exact h.elim
      · exact h.elim
    | arraylength =>
      rw [bu_arraylength] at h
      obtain ⟨hd, hk⟩ := mit_gen hc
      have e := of_decide_eq_true hk
      subst e
      split at h
      · rename_i r rest
        intro ad H locs ls hag hn0 hR
        split at h
        · rename_i hr9
          have hr9 := Nat.le_of_ble_eq_true hr9
          have hra : ad r = adc r := by rw [hag r (Or.inr hr9), had r hr9]
          split at h
          · split at h
            · rename_i N f
              have hgo := hi _ _ _ _ _ _ h ad H locs ls hag hn0 hR
              obtain ⟨g1, g2, g3⟩ := hscr N f rfl
              show W p l e R s m args below meth c H locs cl sl WQ (F0 m pc ls (.ref (ad 1201) :: rest.map (mvm ad)))
              rw [hra]
              exact va_slen hx hbc g1 g2 g3 hR.2.2.1 (mdec_at hd) hgo
            · exact h.elim
          · exact h.elim
        · split at h
          · rename_i N hsh
            exact mW_alenI hy hR (mdec_at hd) hsh (hi _ _ _ _ _ _ h ad H locs ls hag hn0 hR)
          · rename_i rs hsh
            exact mW_alenR hy hR (mdec_at hd) hsh (hi _ _ _ _ _ _ h ad H locs ls hag hn0 hR)
          · exact h.elim
      · exact h.elim
    | newarray t9 =>
      rw [bu_newarray] at h
      obtain ⟨hd, hk⟩ := mit_gen hc
      have e := of_decide_eq_true hk
      subst e
      split at h
      · rename_i x rest
        split at h
        · rename_i hb9
          obtain ⟨hb1, hb2⟩ := mit_gen hb9
          obtain ⟨o1, o2⟩ := mit_gen hb1
          obtain ⟨o3, hb2⟩ := mit_gen hb2
          obtain ⟨o4, hb2⟩ := mit_gen hb2
          obtain ⟨o5, hb2⟩ := mit_gen hb2
          obtain ⟨o6, o7⟩ := mit_gen hb2
          have o4 := Nat.le_of_ble_eq_true o4
          have o5 := Nat.le_of_ble_eq_true o5
          have o6 := Nat.le_of_ble_eq_true o6
          have o7 := Nat.le_of_ble_eq_true o7
          intro ad H locs ls hag hn0 hR
          have hgo : ∀ (sx : mSh) (q : Nat) (H1 : Heap), bx C mi msp scr mc ms rb J Q is L (.ref sh.length :: rest) (sh ++ [sx]) (mnew σ sh.length) (cl + 1) (sl + a) → mRl s D cy A nL (va_up ad sh.length q) L (sh ++ [sx]) (mnew σ sh.length) H1 locs ls → W p l e R s m args below meth c H1 locs (cl + 1) (sl + a) WQ (F0 m (pc + 2) ls (.ref q :: rest.map (mvm ad))) := by
            intro sx q H1 hb hR1
            have := hi _ _ _ _ _ _ hb (va_up ad sh.length q) H1 locs ls (hag.up (mup_ok o4) hn0) (by rw [List.length_append]; exact Nat.le_trans hn0 (Nat.le_add_right _ _)) hR1
            rw [List.map_cons, mvm_ok (mup_ok o4) o1] at this
            have e9 : mvm (va_up ad sh.length q) (.ref sh.length) = .ref q := by simp only [mvm, va_up, if_pos]
            rw [e9] at this
            exact this
          split at h
          · obtain ⟨rfl, h⟩ := h
            exact mW_newI hy hR (mdec_at hd) (hts _ kM_arrI) o2 o3 o4 o7 (by rw [hRc]; exact o5) (by rw [hRs]; exact o6) (fun q H1 hR1 => hgo _ q H1 h hR1)
          · obtain ⟨rfl, h⟩ := h
            exact mW_newJ hy hR (mdec_at hd) (hts _ kM_arrJ) o2 o3 o4 o7 (by rw [hRc]; exact o5) (by rw [hRs]; exact o6) (fun q H1 hR1 => hgo _ q H1 h hR1)
          · exact h.elim
        · exact h.elim
      · exact h.elim
    | anewarray k =>
      rw [bu_anewarray] at h
      obtain ⟨hd, hk⟩ := mit_gen hc
      obtain ⟨h1, h2⟩ := mit_gen hk
      have e := of_decide_eq_true h1
      subst e
      split at h
      · rename_i x rest
        split at h
        · rename_i hb9
          obtain ⟨hb1, hb2⟩ := mit_gen hb9
          obtain ⟨o1, o2⟩ := mit_gen hb1
          obtain ⟨o3, hb2⟩ := mit_gen hb2
          obtain ⟨o4, hb2⟩ := mit_gen hb2
          obtain ⟨o5, hb2⟩ := mit_gen hb2
          obtain ⟨o6, o7⟩ := mit_gen hb2
          have o4 := Nat.le_of_ble_eq_true o4
          have o5 := Nat.le_of_ble_eq_true o5
          have o6 := Nat.le_of_ble_eq_true o6
          have o7 := Nat.le_of_ble_eq_true o7
          intro ad H locs ls hag hn0 hR
          obtain ⟨rfl, h⟩ := h
          refine mW_newQ hy hR (mdec_at hd) h2 hE.2.2.2.2.2.2.2.2.1 o2 o3 o4 o7 (by rw [hRc]; exact o5) (by rw [hRs]; exact o6) (fun q H1 hR1 => ?_)
          have := hi _ _ _ _ _ _ h (va_up ad sh.length q) H1 locs ls (hag.up (mup_ok o4) hn0) (by rw [List.length_append]; exact Nat.le_trans hn0 (Nat.le_add_right _ _)) hR1
          rw [List.map_cons, mvm_ok (mup_ok o4) o1] at this
          have e9 : mvm (va_up ad sh.length q) (.ref sh.length) = .ref q := by simp only [mvm, va_up, if_pos]
          rw [e9] at this
          exact this
        · exact h.elim
      · exact h.elim
    | new k =>
      obtain ⟨hd, hk⟩ := mit_gen hc
      obtain ⟨h1, h2⟩ := mit_gen hk
      have e := of_decide_eq_true h1
      subst e
      match d, h, h2, hc, hk with
      | 0, h, h2, hc, hk =>
        rw [bu_new0] at h
        split at h
        · rename_i hb9
          obtain ⟨hb1, hb2⟩ := mit_gen hb9
          obtain ⟨o1, o2⟩ := mit_gen hb1
          obtain ⟨o3, hb2⟩ := mit_gen hb2
          obtain ⟨o4, hb2⟩ := mit_gen hb2
          obtain ⟨o5, o6⟩ := mit_gen hb2
          have o4 := Nat.le_of_ble_eq_true o4
          have o5 := Nat.le_of_ble_eq_true o5
          have o6 := Nat.le_of_ble_eq_true o6
          intro ad H locs ls hag hn0 hR
          have h7 := h
          match ps, h2 with
          | [(w1, w2)], h2 =>
            refine mW_new hy hR (mdec_at hd) h2 o2 o3 o4 (by rw [hRc]; exact o5) (by rw [hRs]; exact o6) (fun q H1 hR1 => ?_)
            have := hi _ _ _ _ _ _ h7 (va_up ad sh.length q) H1 locs ls (hag.up (mup_ok o4) hn0) (by rw [List.length_append]; exact Nat.le_trans hn0 (Nat.le_add_right _ _)) hR1
            rw [List.map_cons, mvm_ok (mup_ok o4) o1] at this
            have e9 : mvm (va_up ad sh.length q) (.ref sh.length) = .ref q := by simp only [mvm, va_up, if_pos]
            rw [e9] at this
            exact this
          | [], h2 => exact nomatch h2
          | _ :: _ :: _, h2 => exact nomatch h2
        · exact h.elim
      | 9, h, h2, hc, hk =>
        rw [bu_new9] at h
        split at h
        · rename_i hb9
          obtain ⟨o1, hb2⟩ := mit_gen hb9
          obtain ⟨o5, o6⟩ := mit_gen hb2
          exact hth k w a ps pc L st sh σ cl sl (mdec_at hd) h2 (Nat.le_of_ble_eq_true o1) (Nat.le_of_ble_eq_true o5) (Nat.le_of_ble_eq_true o6) h
        · exact h.elim
      | 1, h, _, _, _ => exact h.elim
      | 2, h, _, _, _ => exact h.elim
      | 3, h, _, _, _ => exact h.elim
      | 4, h, _, _, _ => exact h.elim
      | 5, h, _, _, _ => exact h.elim
      | 6, h, _, _, _ => exact h.elim
      | 7, h, _, _, _ => exact h.elim
      | 8, h, _, _, _ => exact h.elim
      | _ + 10, h, _, _, _ => exact h.elim
    | ireturn =>
      rw [bu_ireturn] at h
      obtain ⟨hd, hk⟩ := mit_gen hc
      have e := of_decide_eq_true hk
      subst e
      split at h
      · rename_i x
        split at h
        · rename_i hb9
          obtain ⟨o5, o6⟩ := mit_gen hb9
          split at h
          · exact hri x pc L sh σ cl sl (mdec_at hd) (fun _ => h.1) (Nat.le_of_ble_eq_true o5) (Nat.le_of_ble_eq_true o6) h.2
          · exact hri x pc L sh σ cl sl (mdec_at hd) (fun z => by cases z) (Nat.le_of_ble_eq_true o5) (Nat.le_of_ble_eq_true o6) h
        · exact h.elim
      · exact h.elim
    | lreturn =>
      rw [bu_lreturn] at h
      obtain ⟨hd, hk⟩ := mit_gen hc
      have e := of_decide_eq_true hk
      subst e
      split at h
      · rename_i x
        split at h
        · rename_i hb9
          obtain ⟨o5, o6⟩ := mit_gen hb9
          exact hrl x pc L sh σ cl sl (mdec_at hd) (Nat.le_of_ble_eq_true o5) (Nat.le_of_ble_eq_true o6) h
        · exact h.elim
      · exact h.elim
    | return_ =>
      rw [bu_return_] at h
      obtain ⟨hd, hk⟩ := mit_gen hc
      have e := of_decide_eq_true hk
      subst e
      split at h
      · split at h
        · rename_i hb9
          obtain ⟨o5, o6⟩ := mit_gen hb9
          exact hrv pc L sh σ cl sl (mdec_at hd) (Nat.le_of_ble_eq_true o5) (Nat.le_of_ble_eq_true o6) h
        · exact h.elim
      · exact h.elim
    | invokevirtual k =>
      obtain ⟨hd, hk⟩ := mit_gen hc
      obtain ⟨h1, h2⟩ := mit_gen hk
      have e := of_decide_eq_true h1
      subst e
      match d, h, h2 with
      | 0, h, h2 =>
        obtain ⟨g, g6⟩ := mit_gen h2
        obtain ⟨g1, g⟩ := mit_gen g
        obtain ⟨g2, g⟩ := mit_gen g
        obtain ⟨g3, g4⟩ := mit_gen g
        have g2 := of_decide_eq_true g2
        have g3 := of_decide_eq_true g3
        rw [bu_invokevirtual0] at h
        split at h
        · rename_i hb9
          obtain ⟨o1, hb9⟩ := mit_gen hb9
          obtain ⟨o2, hb9⟩ := mit_gen hb9
          obtain ⟨ov, ol⟩ := mit_gen o2
          obtain ⟨o3, hb9⟩ := mit_gen hb9
          obtain ⟨o4, o5⟩ := mit_gen hb9
          exact mW_call (msp := msp) hy hE hAS hS0 had hRf hRl hRc hRs htb hC hcls htab hJ hxo (mdec_at hd) (Or.inl ⟨rfl, g2, g3, mwat_in g4, o1⟩) (Nat.le_of_ble_eq_true g1) g6 (Nat.le_of_ble_eq_true (mit_gen o3).1) (Nat.le_of_ble_eq_true (mit_gen o3).2) (Nat.le_of_ble_eq_true o4) (Nat.le_of_ble_eq_true o5) (fun v sh2 σ2 hh9 => hi _ _ _ _ _ _ hh9) (Or.inl ⟨ov, ol, h⟩)
        · exact h.elim
      | 1, h, h2 =>
        obtain ⟨g, g6⟩ := mit_gen h2
        obtain ⟨g1, g⟩ := mit_gen g
        obtain ⟨g2, g⟩ := mit_gen g
        obtain ⟨g3, g4⟩ := mit_gen g
        have g2 := of_decide_eq_true g2
        have g3 := of_decide_eq_true g3
        rw [bu_invokevirtual1] at h
        split at h
        · rename_i hb9
          obtain ⟨o1, hb9⟩ := mit_gen hb9
          obtain ⟨o2, hb9⟩ := mit_gen hb9
          obtain ⟨o3, hb9⟩ := mit_gen hb9
          obtain ⟨o4, o5⟩ := mit_gen hb9
          split at h
          · rename_i as2 hrv9
            exact mW_call (msp := msp) hy hE hAS hS0 had hRf hRl hRc hRs htb hC hcls htab hJ hxo (mdec_at hd) (Or.inl ⟨rfl, g2, g3, mwat_in g4, o1⟩) (Nat.le_of_ble_eq_true g1) g6 (Nat.le_of_ble_eq_true (mit_gen o3).1) (Nat.le_of_ble_eq_true (mit_gen o3).2) (Nat.le_of_ble_eq_true o4) (Nat.le_of_ble_eq_true o5) (fun v sh2 σ2 hh9 => hi _ _ _ _ _ _ hh9) (Or.inr ⟨as2, o2, hrv9, h⟩)
          · exact h.elim
        · exact h.elim
      | 7, h, h2 =>
        rw [bu_invokevirtual7] at h
        split at h
        · rename_i r rest hz9
          obtain ⟨i9, o1, o2, o3, o4, e9, h5⟩ := mslen_at h
          subst e9
          intro ad H locs ls hag hn0 hR
          have hra : ad (1000 + i9) = adc (1000 + i9) := by rw [hag _ (Or.inr (Nat.le_add_right _ _)), had _ (Nat.le_add_right _ _)]
          show W p l e R s m args below meth c H locs cl sl WQ (F0 m pc ls (.ref (ad (1000 + i9)) :: rest.map (mvm ad)))
          rw [hra]
          exact mW_slen hy hR hE hAS hRf hRl (by rw [hRc]; exact o3) (by rw [hRs]; exact o4) o1 h2 (mdec_at hd) (by rw [mcat_eq]; exact o2) (hi _ _ _ _ _ _ h5 ad H locs ls hag hn0 hR)
        · exact h.elim
      | 8, h, h2 =>
        rw [bu_invokevirtual8] at h
        split at h
        · rename_i x r rest hz9
          obtain ⟨i9, z9, o1, o2, o3, o4, e9, e8, h8, h5⟩ := mschr_at h
          subst e9 e8
          intro ad H locs ls hag hn0 hR
          have hra : ad (1000 + i9) = adc (1000 + i9) := by rw [hag _ (Or.inr (Nat.le_add_right _ _)), had _ (Nat.le_add_right _ _)]
          show W p l e R s m args below meth c H locs cl sl WQ (F0 m pc ls (.int (nI z9) :: .ref (ad (1000 + i9)) :: rest.map (mvm ad)))
          rw [hra]
          exact mW_char0 hy hR hE hAS hRf hRl (by rw [hRc]; exact o3) (by rw [hRs]; exact o4) o1 h2 (mdec_at hd) (by rw [mcat_eq]; exact o2) h8 (hi _ _ _ _ _ _ h5 ad H locs ls hag hn0 hR)
        · exact h.elim
      | 2, h, _ => exact h.elim
      | 3, h, _ => exact h.elim
      | 4, h, _ => exact h.elim
      | 5, h, _ => exact h.elim
      | 6, h, _ => exact h.elim
      | _ + 9, h, _ => exact h.elim
    | invokestatic k =>
      obtain ⟨hd, hk⟩ := mit_gen hc
      obtain ⟨h1, h2⟩ := mit_gen hk
      have e := of_decide_eq_true h1
      subst e
      match d, h, h2 with
      | 0, h, h2 =>
        obtain ⟨g, g6⟩ := mit_gen h2
        obtain ⟨g1, g⟩ := mit_gen g
        obtain ⟨g2, g⟩ := mit_gen g
        obtain ⟨g3, g4⟩ := mit_gen g
        have g2 := of_decide_eq_true g2
        have g3 := of_decide_eq_true g3
        rw [bu_invokestatic0] at h
        split at h
        · rename_i hb9
          obtain ⟨o2, hb9⟩ := mit_gen hb9
          obtain ⟨o3, hb9⟩ := mit_gen hb9
          obtain ⟨o4, o5⟩ := mit_gen hb9
          obtain ⟨ov, ol⟩ := mit_gen o2
          exact mW_call (msp := msp) hy hE hAS hS0 had hRf hRl hRc hRs htb hC hcls htab hJ hxo (mdec_at hd) (Or.inr (Or.inl ⟨rfl, g2, g3, mwat_in g4⟩)) (Nat.le_of_ble_eq_true g1) g6 (Nat.le_of_ble_eq_true (mit_gen o3).1) (Nat.le_of_ble_eq_true (mit_gen o3).2) (Nat.le_of_ble_eq_true o4) (Nat.le_of_ble_eq_true o5) (fun v sh2 σ2 hh9 => hi _ _ _ _ _ _ hh9) (Or.inl ⟨ov, ol, h⟩)
        · exact h.elim
      | 1, h, h2 =>
        obtain ⟨g, g6⟩ := mit_gen h2
        obtain ⟨g1, g⟩ := mit_gen g
        obtain ⟨g2, g⟩ := mit_gen g
        obtain ⟨g3, g4⟩ := mit_gen g
        have g2 := of_decide_eq_true g2
        have g3 := of_decide_eq_true g3
        rw [bu_invokestatic1] at h
        split at h
        · rename_i hb9
          obtain ⟨o2, hb9⟩ := mit_gen hb9
          obtain ⟨o3, hb9⟩ := mit_gen hb9
          obtain ⟨o4, o5⟩ := mit_gen hb9
          split at h
          · rename_i as2 hrv9
            exact mW_call (msp := msp) hy hE hAS hS0 had hRf hRl hRc hRs htb hC hcls htab hJ hxo (mdec_at hd) (Or.inr (Or.inl ⟨rfl, g2, g3, mwat_in g4⟩)) (Nat.le_of_ble_eq_true g1) g6 (Nat.le_of_ble_eq_true (mit_gen o3).1) (Nat.le_of_ble_eq_true (mit_gen o3).2) (Nat.le_of_ble_eq_true o4) (Nat.le_of_ble_eq_true o5) (fun v sh2 σ2 hh9 => hi _ _ _ _ _ _ hh9) (Or.inr ⟨as2, o2, hrv9, h⟩)
          · exact h.elim
        · exact h.elim
      | 2, h, h2 =>
        rw [bu_invokestatic2] at h
        split at h
        · split at h
          · rename_i hb9
            intro ad H locs ls hag hn0 hR
            exact va_mmax hx hbc (hml.trans hR.2.2.2.1.symm) hown (mword hts h2) (hts _ kM_static_max) (hts _ kM_init) (hts _ kM_code_max) (by omega) (by rw [mcat_eq]; have := Nat.le_of_ble_eq_true (mit_gen hb9).1; omega) (by rw [hRc]; exact Nat.le_of_ble_eq_true (mit_gen (mit_gen hb9).2).1) (by rw [hRs]; exact Nat.le_of_ble_eq_true (mit_gen (mit_gen hb9).2).2) (mdec_at hd) (hi _ _ _ _ _ _ h ad H locs ls hag hn0 hR)
          · exact h.elim
        · exact h.elim
      | 3, h, h2 =>
        rw [bu_invokestatic3] at h
        split at h
        · split at h
          · rename_i hb9
            intro ad H locs ls hag hn0 hR
            rw [mmin_eq] at h; exact va_mmin hx hbc (hml.trans hR.2.2.2.1.symm) hown (mword hts h2) (hts _ kM_static_min) (hts _ kM_init) (hts _ kM_code_min) (by omega) (by rw [mcat_eq]; have := Nat.le_of_ble_eq_true (mit_gen hb9).1; omega) (by rw [hRc]; exact Nat.le_of_ble_eq_true (mit_gen (mit_gen hb9).2).1) (by rw [hRs]; exact Nat.le_of_ble_eq_true (mit_gen (mit_gen hb9).2).2) (mdec_at hd) (hi _ _ _ _ _ _ h ad H locs ls hag hn0 hR)
          · exact h.elim
        · exact h.elim
      | 4, h, h2 =>
        rw [bu_invokestatic4] at h
        split at h
        · split at h
          · rename_i hb9
            intro ad H locs ls hag hn0 hR
            exact va_mabs hx hbc (hml.trans hR.2.2.2.1.symm) hown (mword hts h2) (hts _ kM_static_abs) (hts _ kM_init) (hts _ kM_code_abs) (by omega) (by rw [mcat_eq]; have := Nat.le_of_ble_eq_true (mit_gen hb9).1; omega) (by rw [hRc]; exact Nat.le_of_ble_eq_true (mit_gen (mit_gen hb9).2).1) (by rw [hRs]; exact Nat.le_of_ble_eq_true (mit_gen (mit_gen hb9).2).2) (mdec_at hd) (hi _ _ _ _ _ _ h ad H locs ls hag hn0 hR)
          · exact h.elim
        · exact h.elim
      | 5, h, h2 =>
        rw [bu_invokestatic5] at h
        split at h
        · split at h
          · rename_i N M hsr hsq
            split at h
            · rename_i hb9
              intro ad H locs ls hag hn0 hR
              exact mW_copy hy hR (mdec_at hd) h2 kM_cp1 kM_cp2 kM_cp3 hsr hsq h.1 (by omega) (by rw [mcat_eq]; have := Nat.le_of_ble_eq_true (mit_gen hb9).1; have hz : nativeFrameWords "java/lang/System" "arraycopy" 5 + 11 ≤ 100 := (by decide +kernel); omega) (fun H1 locs1 hR1 => hi _ _ _ _ _ _ h.2 ad H1 locs1 ls hag hn0 hR1)
            · exact h.elim
          · exact h.elim
        · exact h.elim
      | _ + 6, h, _ => exact h.elim
    | invokespecial k =>
      obtain ⟨hd, hk⟩ := mit_gen hc
      obtain ⟨h1, h2⟩ := mit_gen hk
      have e := of_decide_eq_true h1
      subst e
      match d, h, h2 with
      | 0, h, h2 =>
        obtain ⟨g, g6⟩ := mit_gen h2
        obtain ⟨g1, g⟩ := mit_gen g
        obtain ⟨g2, g⟩ := mit_gen g
        obtain ⟨g3, g4⟩ := mit_gen g
        have g2 := of_decide_eq_true g2
        have g3 := of_decide_eq_true g3
        rw [bu_invokespecial0] at h
        split at h
        · rename_i hb9
          obtain ⟨o1, hb9⟩ := mit_gen hb9
          have hlk9 : Cond.methodLink own k (tb a).1.1 ∈ gtbl ∨ (own, k, (tb a).1.1) ∈ mnst := by
            rw [Bool.or_eq_true] at g4
            rcases g4 with z | z
            · exact Or.inl (mwat_in z)
            · exact Or.inr (of_decide_eq_true z)
          obtain ⟨o2, hb9⟩ := mit_gen hb9
          obtain ⟨o3, hb9⟩ := mit_gen hb9
          obtain ⟨o4, o5⟩ := mit_gen hb9
          obtain ⟨ov, ol⟩ := mit_gen o2
          exact mW_call (msp := msp) hy hE hAS hS0 had hRf hRl hRc hRs htb hC hcls htab hJ hxo (mdec_at hd) (Or.inr (Or.inr ⟨rfl, g2, g3, hlk9, o1⟩)) (Nat.le_of_ble_eq_true g1) g6 (Nat.le_of_ble_eq_true (mit_gen o3).1) (Nat.le_of_ble_eq_true (mit_gen o3).2) (Nat.le_of_ble_eq_true o4) (Nat.le_of_ble_eq_true o5) (fun v sh2 σ2 hh9 => hi _ _ _ _ _ _ hh9) (Or.inl ⟨ov, ol, h⟩)
        · exact h.elim
      | 6, h, h2 =>
        rw [bu_invokespecial6] at h
        split at h
        · split at h
          · rename_i hb9
            intro ad H locs ls hag hn0 hR
            exact W.objInit hx hbc hown (mword hts h2) (hts _ kM_obj) (hts _ kM_objc) rfl (hR.2.2.2.1.trans hml.symm) rfl (mdec_at hd) (by omega) (by have e8 := mcat_eq ad ‹List Value›; have := Nat.le_of_ble_eq_true (mit_gen hb9).1; show 2 * 0 + _ + 12 ≤ _; rw [mcat_eq]; omega) (hi _ _ _ _ _ _ h ad H locs ls hag hn0 hR)
          · exact h.elim
        · exact h.elim
      | 1, h, _ => exact h.elim
      | 2, h, _ => exact h.elim
      | 3, h, _ => exact h.elim
      | 4, h, _ => exact h.elim
      | 5, h, _ => exact h.elim
      | _ + 7, h, _ => exact h.elim
    | _ =>
      obtain ⟨hd, hk⟩ := mit_gen hc
      exact mW_gen (w := w) (a := a) (d := d) (B := fun st2 => bx C mi msp scr mc ms rb J Q is L st2 sh σ cl sl) hy hE had hd hk h (fun st2 => hi _ _ _ _ _ _)
end MBM
