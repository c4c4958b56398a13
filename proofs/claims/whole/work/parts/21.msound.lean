/-! METHODS: the theorem -/
section MSO
variable {tb : Nat → mTe} {cd : Nat → List (Nat × List mIt)} {mi : Nat → Nat × Nat × Nat} {msp : Nat → List mSh} {NM : Nat}
variable {l : Launch} {D : va_G} {cy : mCy} {S0 : Nat} {adc adV : Nat → Nat}
set_option maxHeartbeats 4000000 in
theorem mCT_sound (hfl : l.stackTraces = false) (hjb : ∀ j, j < NM → mjb tb NM (tb j) (cd j) = true) (hcls : ∀ j, j < NM → (tb j).2.1 = 0 → (mi j).2.2 = (tb j).2.2.2.1) : ∀ (d j : Nat) (as : List Value) (sh : List mSh) (σ : mSg) (Q : mPst), j < NM → mCT tb cd mi msp d j as sh σ Q → mMet l D cy S0 adc adV (tb j).1 d (mi j).1 (mi j).2.1 as sh σ Q := by
  intro d
  induction d with
  | zero => intro j as sh σ Q hj h; exact h.elim
  | succ d ih =>
    intro j as sh σ Q hj h
    obtain ⟨hcat, h⟩ := h
    have hcat := Nat.le_of_ble_eq_true hcat
    have hb := hjb j hj
    simp only [mjb, Bool.and_eq_true, List.all_eq_true] at hb
    obtain ⟨hte, hpl, hnt, hbs⟩ := hb
    obtain ⟨hmm, hcw, hini⟩ := mteb_at hte
    intro ad sz hadc
    have core : ∀ (p : Program) (e : Env) (s : State) (m : MethodId) (args : Array Value) (below : List Frame) (meth : Method) (c : Code) (s₁ : State), BodyLoose p l (tb j).1.1 (headSpec (mcw (tb j).1 :: gtbl) (mRm (d + 1) (mi j).1 (mi j).2.1)) (tb j).1.2.1 (tb j).1.2.2.1 (tb j).1.2.2.2.1 e s m args below meth c s₁ → c.maxLocals = (tb j).1.2.2.1 → c.exceptionTable.toList = tableOf (tb j).1.2.2.2.2 → mPr D cy S0 adc adV as ad sh σ sz args s →
        W p l e (headSpec (mcw (tb j).1 :: gtbl) (mRm (d + 1) (mi j).1 (mi j).2.1)).room s m args below meth c s.heap [] 0 0 (vx_MQ below (mQc D cy (va_A (mwd cy ad σ 0 sh) sz) sh.length ad Q) (mXc D cy (va_A (mwd cy ad σ 0 sh) sz) sh.length ad Q) args s (mi j).1 (mi j).2.1 (va_A (mwd cy ad σ 0 sh) sz)) (entryFrame m args (tb j).1.2.2.1) := by
      intro p e s m args below meth c s₁ B hml htab hv
      obtain ⟨hargs, hsz, hP, hK, hD, hS, hE⟩ := hv
      subst hsz
      have hts : ∀ w ∈ gtbl, w.before args s = true := fun w hw => atoms_spec (ws := mcw (tb j).1 :: gtbl) B.pre w (List.mem_cons_of_mem _ hw)
      have hown : s.vm.findClass (tb j).1.1.cls = some m.cls := findClass_of_methodNamed B.named
      have hx := B.exec
      have hbc := B.bytes
      have hlocks := B.notSynchronized
      have hret := B.returns
      have hy : mHy p s m args c (tb j).1.1.cls (tb j).1.2.1 (tb j).1.2.2.1 D cy (va_A (mwd cy ad σ 0 sh) s.heap.size) := ⟨hx, hbc, hml, hown, hts, hK, fun q hq => Or.inr hq⟩
      have hAS : ∀ q, va_A (mwd cy ad σ 0 sh) s.heap.size q → S0 ≤ q := by
        rintro q (⟨k, e9, hk⟩ | hq)
        · exact hD.2 k (q, e9) hk
        · exact Nat.le_trans hS hq
      subst hargs
      rw [lg_entry_eq]
      have hR0 : mRl s D cy (va_A (mwd cy ad σ 0 sh) s.heap.size) (tb j).1.2.2.1 ad (mpad (tb j).1.2.2.1 (ment as)) sh σ s.heap [] (lg_sl (as.map (mvm ad)) ++ List.replicate ((tb j).1.2.2.1 - (lg_sl (as.map (mvm ad))).length) Slot.unset).toArray := ⟨hP, hD.self, va_S.rf, mLR_entry hcat⟩
      refine h (fun lb L st sh2 σ2 cl sl => mWt p l e (mRm (d + 1) (mi j).1 (mi j).2.1) s m (as.map (mvm ad)).toArray below meth c D cy (va_A (mwd cy ad σ 0 sh) s.heap.size) (tb j).1.2.2.1 (vx_MQ below (mQc D cy (va_A (mwd cy ad σ 0 sh) s.heap.size) sh.length ad Q) (mXc D cy (va_A (mwd cy ad σ 0 sh) s.heap.size) sh.length ad Q) (as.map (mvm ad)).toArray s (mi j).1 (mi j).2.1 (va_A (mwd cy ad σ 0 sh) s.heap.size)) sh.length ad lb L st sh2 σ2 cl sl) ?_ ad s.heap [] _ (fun _ _ => rfl) (Nat.le_refl _) hR0
      intro lb L st sh2 σ2 cl sl hbx
      rcases mlk_mem (cd j) lb with hnil | hmem
      · rw [hnil] at hbx; exact hbx.elim
      · refine mW_bx (tb := tb) (NM := NM) (hh := (tb j).1.2.2.2.2) (init := decide ((tb j).1.1.name = "<init>")) (S0 := S0) (d0 := d) (adc := adc) (adV := adV) hy hE hAS hS hadc (by simp only [mRm]; omega) (by simp only [mRm]; omega) rfl rfl ?_ ?_ hcls ?_ htab (fun N f z => by cases z) (fun _ _ _ _ _ _ _ z => z) ?_ ?_ ?_ ?_ ?_ _ lb L st sh2 σ2 cl sl (hbs _ hmem) hbx
        · intro j2 hj2
          have := hjb j2 hj2
          simp only [mjb, Bool.and_eq_true] at this
          exact this.1
        · intro j2 as2 sh3 σ3 Q2 hj2 hc2
          exact ih j2 as2 sh3 σ3 Q2 hj2 hc2
        · intro hi
          rw [(name_of_methodNamed B.named B.method).1]
          exact of_decide_eq_true hi
        · intro x pc L2 sh3 σ3 cl2 sl2 hd hrb hcl hsl hq ad2 H locs ls hag hn0 hR
          have hq9 : Q (.inl (some (.int x))) sh3 σ3 ∧ ∃ ty, (tb j).1.2.2.2.1 = some ty ∧ narrow ty (.int x) = .int x := by
            simp only [mtyQ] at hq
            split at hq
            · rename_i hr9; exact ⟨hq, .int, hr9, rfl⟩
            · rename_i hr9; exact ⟨hq, .boolean, hr9, (mnar_bool (hrb (by rw [hr9]; rfl))).1⟩
            · exact hq.elim
          obtain ⟨hq, ty, hty, hnar⟩ := hq9
          refine vx_ret (fun T hT X => (W.zret hx hbc (hret.trans hty) hnar (fun t ht hW => ⟨⟨some (.int x), sh3, σ3, ad2, rfl, hq, ⟨hag, hn0⟩, by rw [ht]; exact hR.1, hR.2.1⟩, hR.2.2.1.F ht⟩) (fun q hq9 => hR.2.2.1.2.2 q hq9) hd hlocks) T hT (stand_widen X hcl hsl))
        · intro x pc L2 sh3 σ3 cl2 sl2 hd hcl hsl hq ad2 H locs ls hag hn0 hR
          have hq9 : Q (.inl (some (.long x))) sh3 σ3 ∧ (tb j).1.2.2.2.1 = some .long := by
            simp only [mtyQ] at hq
            split at hq
            · rename_i hr9; exact ⟨hq, hr9⟩
            · exact hq.elim
          obtain ⟨hq, hty⟩ := hq9
          refine vx_ret (fun T hT X => (W.lret hx hbc (hret.trans hty) (fun t ht hW => ⟨⟨some (.long x), sh3, σ3, ad2, rfl, hq, ⟨hag, hn0⟩, by rw [ht]; exact hR.1, hR.2.1⟩, hR.2.2.1.F ht⟩) (fun q hq9 => hR.2.2.1.2.2 q hq9) hd hlocks) T hT (stand_widen X hcl hsl))
        · intro pc L2 sh3 σ3 cl2 sl2 hd hcl hsl hq ad2 H locs ls hag hn0 hR
          have hq9 : Q (.inl none) sh3 σ3 ∧ (tb j).1.2.2.2.1 = none := by
            simp only [mtyQ] at hq
            split at hq
            · rename_i hr9; exact ⟨hq, hr9⟩
            · exact hq.elim
          obtain ⟨hq, hty⟩ := hq9
          refine vx_ret (fun T hT X => (W.vret hx hbc (hret.trans hty) (fun t ht hW => ⟨⟨none, sh3, σ3, ad2, rfl, hq, ⟨hag, hn0⟩, by rw [ht]; exact hR.1, hR.2.1⟩, hR.2.2.1.F ht⟩) (fun q hq9 => hR.2.2.1.2.2 q hq9) hd hlocks) T hT (stand_widen X hcl hsl))
        · intro k w a ps pc L2 st2 sh3 σ3 cl2 sl2 hd hth hcat2 hcl hsl hq ad2 H locs ls hag hn0 hR
          have hq : Q (.inr a) sh3 σ3 := hq
          obtain ⟨is, wide, w2, txt, X, ic, lw, e1, e2, e3, e4, e5, e6, e7, e8, e9, e10⟩ := mthb_at hth
          obtain ⟨z1, z2, ix, rx, z3, z4, z5, z6, z7, z8⟩ := mth_all a X ic e2 e3
          have hnil : (tb j).1.2.2.2.2 = [] := by
            rw [Bool.or_eq_true] at hnt
            rcases hnt with z | z
            · exact absurd e1 (of_decide_eq_true z)
            · exact of_decide_eq_true z
          have hS9 : va_S (fun q => S0 ≤ q) s.heap H locs := ⟨hR.2.2.1.1, fun q h1 h2 => hR.2.2.1.2.1 q h1 (fun z => h2 (hAS q z)), fun q hq9 => hAS _ (hR.2.2.1.2.2 q hq9)⟩
          obtain ⟨tx, htx⟩ := e6
          refine mthrow (A := fun q => S0 ≤ q) (Y := "java/lang/RuntimeException") (r := ["java/lang/Exception"]) (text := tx) (sa := adc (1000 + txt)) hx hbc hfl z3 z4 z5 z6 (by rw [← e1]; exact hown) z2 (by decide +kernel) (by decide +kernel) (mword hts e4) (mword hts e5) (hE.1 _ htx) (mth_hat hts hE z1 z7) ?_ hE.2.2.2.2.1.1 hE.2.2.2.2.1.2 hS9 (hR.2.2.2.1.trans hml.symm) hd e7 e8 e9 e10 (fun x hx9 => by rw [htab, hnil] at hx9; cases hx9) ?_ ?_ hcl hsl hlocks ?_ (fun z hz9 => hR.2.2.1.2.2 z hz9) hcl hsl
          · intro w hw
            rcases List.mem_cons.mp hw with rfl | hw
            · rfl
            · rcases List.mem_cons.mp hw with rfl | hw
              · rfl
              · exact List.all_eq_true.mp z8 w hw
          · show 1 + 1 + 3 < 20 + (d + 1); omega
          · rw [mcat_eq]; show mcat st2 + (13 * (1 + 1 + 1) + 43) ≤ 400 + 60 * (d + 1); omega
          · intro t ht h1 h2
            refine ⟨⟨a, sh3, σ3, ad2, e2, hq, ⟨hag, hn0⟩, hR.1.kept (fun k9 q9 hk9 => h2 q9.1 ((hR.1 k9 q9 hk9).lt)), hR.2.1⟩, Nat.le_trans hR.2.2.1.1 h1, fun q h3 h4 => ?_⟩
            rw [h2 q (Nat.lt_of_lt_of_le h3 hR.2.2.1.1)]
            exact hR.2.2.1.2.1 q h3 h4
        · intro x E ce q L2 sh3 σ3 cl2 sl2 ad2 H locs ls pc rest hq hxE hag hn0 hR hcl hsl hce hcv hcl2 hz
          have hq : Q (.inr x) sh3 σ3 := hq
          exact vx_outP hown hlocks hz hce hcv hcl2 (fun t ht hW => ⟨⟨x, sh3, σ3, ad2, hxE, hq, ⟨hag, hn0⟩, by rw [ht]; exact hR.1, hR.2.1⟩, hR.2.2.1.F ht⟩) (fun z hz9 => hR.2.2.1.2.2 z hz9) hcl hsl
    cases hh : (tb j).1.2.2.2.2 with
    | nil =>
      refine vx_ofW hpl (ws' := gtbl) (cc := (tb j).1.2.1) (maxL := (tb j).1.2.2.1) (ret := (tb j).1.2.2.2.1) (by unfold mcw; rw [hh]) ?_
      intro p e s m args below meth c s₁ B hml ht hv
      refine core p e s m args below meth c s₁ B hml ?_ hv
      rw [hh]
      cases he : c.exceptionTable.toList with
      | nil => rfl
      | cons z zs => exact (ht z (by rw [he]; exact List.mem_cons_self)).elim
    | cons h0 hs =>
      have hw : mcw (tb j).1 :: gtbl = Cond.codeWith (tb j).1.1 (tb j).1.2.1 (tb j).1.2.2.1 (tb j).1.2.2.2.1 (h0 :: hs) :: gtbl := by unfold mcw; rw [hh]
      refine vx_ofWH hpl (ws' := gtbl) (cc := (tb j).1.2.1) (maxL := (tb j).1.2.2.1) (ret := (tb j).1.2.2.2.1) hw ?_
      intro p e s m args below meth c s₁ B hml hv
      refine core p e s m args below meth c s₁ B hml ?_ hv
      rw [hh]
      exact vx_table (x := (tb j).1.1) B (atoms_spec (ws := mcw (tb j).1 :: gtbl) B.pre _ (by rw [hw]; exact List.mem_cons_self))
end MSO
