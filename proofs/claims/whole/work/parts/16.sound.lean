/-! STRETCHES OF CODE are sound: the theorem -/
theorem mkl0 : ∀ (L : mLc) (i : Nat) (v : Value), (mkl 0 L)[i]? = some (some v) → False
  | [], i, v, h => by simp [mkl] at h
  | x :: L, 0, v, h => by simp [mkl] at h
  | x :: L, i + 1, v, h => by
    simp only [mkl, List.getElem?_cons_succ] at h
    exact mkl0 L i v h
section MEC
variable {p : Program} {l : Launch} {e : Env} {R : Room} {s : State} {m : MethodId} {args : Array Value} {below : List Frame} {meth : Method} {c : Code} {H : Heap} {locs : List Loc} {cells slots : Nat} {WQ : State → Prop}
variable {own : String} {cc : ByteArray} {nL : Nat} {pc : Nat} {ad : Nat → Nat} {L : mLc} {ls : Array Slot} {rest : List Value} {S0 : Nat} {adc adV : Nat → Nat}
def mpas (own : String) (args : Array Value) (s : State) (E : String) (pc : Nat) (z : ExceptionTableEntry) : Prop := covers z pc = false ∨ (z.catchType ≠ 0 ∧ ∃ nm : String, (Cond.classLink own z.catchType nm).before args s = true ∧ va_Nc E nm s)
theorem mexc_go (hx : p.tables.exec = Jvm.exec) (hbc : c.code = cc) (hown : s.vm.findClass own = some m.cls) (hts : ∀ w ∈ gtbl, w.before args s = true) (hE : mEX adc adV S0 s s.heap) (hL : mLR ad ls nL L) {x : Nat} {E : String} {ce : Cell} {q : Addr} (hxE : mnx mxl x = some E) (hce : H[q]? = some ce) (hcv : ce.vm = .none) (hcl : s.vm.findClass E = some ce.cls)
    : ∀ (hh : List (Nat × Nat × Nat × Nat)) (ps : List (Nat × Nat)) (pre : List ExceptionTableEntry), c.exceptionTable.toList = pre ++ tableOf hh → mhk1 own cc nL pc hh ps = true → (∀ z ∈ pre, mpas own args s E pc z) →
      (∀ t, mhd ps x = some t → ∀ ls' : Array Slot, mLR ad ls' nL (mkl 0 L) → W p l e R s m args below meth c H locs cells slots WQ (F0 m t ls' [])) →
      (mhd ps x = none → (∀ z ∈ c.exceptionTable.toList, mpas own args s E pc z) → vx_W p l e R s m args below meth c H locs cells slots WQ (F0 m pc ls rest) q) →
      vx_W p l e R s m args below meth c H locs cells slots WQ (F0 m pc ls rest) q
  | [], [], pre, hs, _, hp, _, ko => ko rfl (fun z hz => hp z (by rw [hs] at hz; simpa [tableOf] using hz))
  | [], _ :: _, _, _, hm, _, _, _ => by simp [mhk1] at hm
  | _ :: _, [], _, _, hm, _, _, _ => by simp [mhk1] at hm
  | (f, t, h, ct) :: hh, (y, lb) :: ps, pre, hs, hm, hp, kc, ko => by
    simp only [mhk1, Bool.and_eq_true] at hm
    obtain ⟨⟨hf, ht⟩, hcb, hash, hm⟩ := hm
    unfold mclb at hcb
    simp only [Bool.and_eq_true, decide_eq_true_eq, List.any_eq_true] at hcb
    obtain ⟨hct, ⟨q1, q2, q3⟩, -, he1, he2, hw, hsome⟩ := hcb
    dsimp only at he1 he2 hw
    subst he1 he2
    have hcov : covers ⟨f, t, h, q1⟩ pc = true := by
      simp only [Bool.and_eq_true, decide_eq_true_eq]
      exact ⟨Nat.le_of_ble_eq_true hf, Nat.le_of_ble_eq_true ht⟩
    cases hY : mnx mxl q2 with
    | none => rw [hY] at hsome; cases hsome
    | some Y =>
      have hYn : mxn q2 = Y := by unfold mxn; rw [hY]; rfl
      rw [hYn] at hw
      have hYm : Y ∈ mxl := by rw [mnx_eq] at hY; exact List.mem_of_getElem? hY
      have hEm : E ∈ mxl := by rw [mnx_eq] at hxE; exact List.mem_of_getElem? hxE
      by_cases hxy : q2 = x
      · subst hxy
        rw [hY] at hxE
        cases hxE
        have hmh : mhd ((q2, lb) :: ps) q2 = some lb := by simp only [mhd]; rw [show Nat.beq q2 q2 = true from Nat.beq_refl q2]
        refine vx_catch hown pre ⟨f, t, h, q1⟩ (tableOf hh) (by rw [hs]; rfl) hp hcov hct (mword hts hw) (va_Nw.use rfl (hE.2.2.2.2.2.1 _ hEm)) hce hcv hcl ?_
        unfold mash at hash
        split at hash
        · rename_i k hdk
          simp only [Bool.and_eq_true] at hash
          have e := Nat.eq_of_beq_eq_true hash.2
          subst e
          exact lv_astore_n hx hbc hdk rfl (mLR_has hL) (Nat.le_of_ble_eq_true hash.1) rfl (fun ls' hl' => kc _ hmh ls' ⟨hl'.1, hl'.2.1, fun i v hv => (mkl0 L i v hv).elim⟩)
        · rename_i k hdk
          simp only [Bool.and_eq_true] at hash
          have e := Nat.eq_of_beq_eq_true hash.2
          subst e
          exact lv_astore hx hbc hdk (mLR_has hL) (Nat.le_of_ble_eq_true hash.1) rfl (fun ls' hl' => kc _ hmh ls' ⟨hl'.1, hl'.2.1, fun i v hv => (mkl0 L i v hv).elim⟩)
        · cases hash
      · have hmh : mhd ((q2, lb) :: ps) x = mhd ps x := by
          simp only [mhd]
          rw [show Nat.beq q2 x = false from by
            cases hz : Nat.beq q2 x with
            | false => rfl
            | true => exact absurd (Nat.eq_of_beq_eq_true hz) hxy]
        rw [hmh] at kc ko
        have hEY : E ≠ Y := fun z => hxy (by
          subst z
          have nd : ∀ i, i < 5 → ∀ j, j < 5 → mxl[i]? = mxl[j]? → i = j := by decide +kernel
          rw [mnx_eq] at hY hxE
          have h1 := (List.getElem?_eq_some_iff.mp hY).1
          have h2 := (List.getElem?_eq_some_iff.mp hxE).1
          exact nd q2 h1 x h2 (by rw [hY, hxE]))
        refine mexc_go hx hbc hown hts hE hL hxE hce hcv hcl hh ps (pre ++ [⟨f, t, h, q1⟩]) (by rw [hs, List.append_assoc]; rfl) hm (fun z hz => ?_) kc ko
        rcases List.mem_append.mp hz with hz | hz
        · exact hp z hz
        · rw [List.mem_singleton.mp hz]
          exact Or.inr ⟨hct, Y, mword hts hw, hE.2.2.2.2.2.2.2.2.2 E hEm Y hYm hEY⟩
end MEC
/-- at a point of the code, from any heap that holds the world -/
def mWt (p : Program) (l : Launch) (e : Env) (R : Room) (s : State) (m : MethodId) (args : Array Value) (below : List Frame) (meth : Method) (c : Code) (D : va_G) (cy : mCy) (A : Nat → Prop) (nL : Nat) (WQ : State → Prop) (n0 : Nat) (ad0 : Nat → Nat) (pc : Nat) (L : mLc) (st : List Value) (sh : List mSh) (σ : mSg) (cl sl : Nat) : Prop :=
  ∀ (ad : Nat → Nat) (H : Heap) (locs : List Loc) (ls : Array Slot), mAg n0 ad ad0 → n0 ≤ sh.length → mRl s D cy A nL ad L sh σ H locs ls → W p l e R s m args below meth c H locs cl sl WQ (F0 m pc ls (st.map (mvm ad)))
theorem mAg.up {n0 n : Nat} {ad ad2 ad0 : Nat → Nat} (h : mAg n0 ad ad0) (h2 : mAg n ad2 ad) (hn : n0 ≤ n) : mAg n0 ad2 ad0 := fun i hi => by
  rw [h2 i (hi.imp (fun z => Nat.lt_of_lt_of_le z hn) id), h i hi]
theorem mteb_at {q : mTe} (h : mteb q = true) : mmb q.1 q.2.2.1 = true ∧ mcw q.1 ∈ gtbl ∧ Cond.initialized q.1.1.cls ∈ gtbl := by
  simp only [mteb, Bool.and_eq_true] at h
  exact ⟨h.1, mwat_in h.2.1, mwat_in h.2.2.1⟩
theorem mteb_0 {q : mTe} (h : mteb q = true) (hk : q.2.1 = 0) : q.1.2.2.2.2 = [] ∧ Cond.instanceMethod q.1.1 ∈ gtbl ∧ Cond.selects q.1.1.cls q.1.1 q.1.1 ∈ gtbl ∧ ∃ (T : u_T) (N : Nat), vwCl[q.2.2.2.1]? = some (q.1.1.cls, T, N) := by
  simp only [mteb, Bool.and_eq_true, hk, decide_eq_true_eq] at h
  obtain ⟨-, -, -, h1, h2, h3, h4⟩ := h
  refine ⟨h1, mwat_in h2, mwat_in h3, ?_⟩
  split at h4
  · rename_i C T N hC
    rw [of_decide_eq_true h4] at hC
    exact ⟨T, N, hC⟩
  · cases h4
theorem mteb_1 {q : mTe} (h : mteb q = true) (hk : q.2.1 = 1) : Cond.static q.1.1 ∈ gtbl := by
  simp only [mteb, Bool.and_eq_true, hk] at h
  exact mwat_in h.2.2.2
theorem mteb_2 {q : mTe} (h : mteb q = true) (hk : q.2.1 = 2) : q.1.2.2.2.2 = [] ∧ q.1.2.2.2.1 = none ∧ q.1.1.name = "<init>" ∧ Cond.instanceMethod q.1.1 ∈ gtbl := by
  simp only [mteb, Bool.and_eq_true, hk, decide_eq_true_eq] at h
  exact ⟨h.2.2.2.1, h.2.2.2.2.1, h.2.2.2.2.2.1, mwat_in h.2.2.2.2.2.2⟩
