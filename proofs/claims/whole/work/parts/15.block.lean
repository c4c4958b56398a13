/-! STRETCHES OF CODE are sound -/
/-- a method of the table: name and code; kind (0 by its object, 1 static, 2 a constructor); parameters; its object's class; places of its words -/
abbrev mTe : Type := mMn × Nat × Nat × Nat × Nat × Nat × Nat × Nat
def mteb (q : mTe) : Bool := mmb q.1 q.2.2.1 && (mwat q.2.2.2.2.1 (mcw q.1) && (mwat q.2.2.2.2.2.2.2 (.initialized q.1.1.cls) && (match q.2.1 with
  | 0 => decide (q.1.2.2.2.2 = []) && (mwat q.2.2.2.2.2.1 (.instanceMethod q.1.1) && (mwat q.2.2.2.2.2.2.1 (.selects q.1.1.cls q.1.1 q.1.1) && (match vwCl[q.2.2.2.1]? with | some (C, _, _) => decide (C = q.1.1.cls) | none => false)))
  | 1 => mwat q.2.2.2.2.2.1 (.static q.1.1)
  | 2 => decide (q.1.2.2.2.2 = []) && (decide (q.1.2.2.2.1 = none) && (decide (q.1.1.name = "<init>") && mwat q.2.2.2.2.2.1 (.instanceMethod q.1.1)))
  | _ => false)))
def mdec (cc : ByteArray) (pc : Nat) (i : Instr) (len : Nat) : Bool := match decode cc pc with
  | .ok r => decide (r = (i, len))
  | .error _ => false
theorem mdec_at {cc : ByteArray} {pc : Nat} {i : Instr} {len : Nat} (h : mdec cc pc i len = true) : decode cc pc = .ok (i, len) := by
  unfold mdec at h
  split at h
  · rename_i r hr; rw [hr, of_decide_eq_true h]
  · cases h
/-- the links of the law's class to the exceptions: entry, number, place -/
def mclt : List (Nat × Nat × Nat) := [(13, 0, 691), (53, 1, 1259), (24, 2, 1000), (15, 3, 692), (26, 4, 1001)]
def mclb (own : String) (ct y : Nat) : Bool := decide (ct ≠ 0) && mclt.any (fun q => decide (q.1 = ct) && (decide (q.2.1 = y) && (mwat q.2.2 (.classLink own ct (mxn y)) && decide ((mnx mxl y).isSome = true))))
/-- a handler: it lays the exception away, and goes on at a label -/
def mash (cc : ByteArray) (nL h lb : Nat) : Bool := match decode cc h with
  | .ok (.astore_n k, 1) => Nat.blt k.val nL && Nat.beq lb (h + 1)
  | .ok (.astore k, 2) => Nat.blt k nL && Nat.beq lb (h + 2)
  | _ => false
def mhk1 (own : String) (cc : ByteArray) (nL pc : Nat) : List (Nat × Nat × Nat × Nat) → List (Nat × Nat) → Bool
  | [], [] => true
  | (f, t, h, ct) :: hh, (y, lb) :: ps => (Nat.ble f pc && Nat.blt pc t) && (mclb own ct y && (mash cc nL h lb && mhk1 own cc nL pc hh ps))
  | _, _ => false
/-- a throw at pc: new, dup, a text, the constructor, athrow -/
def mthb (own : String) (cc : ByteArray) (pc ik w a : Nat) : List (Nat × Nat) → Bool
  | [(is, wide), (w2, txt)] => (decide (own = "DustYard") && (match mnx mxl a, mnx mxc a with
    | some X, some ic => mwat w (.classLink own ik X) && (mwat w2 (.initialized X) && (mtxb mtx own is txt && (mdec cc (pc + 3) .dup 1 && ((match wide with | 0 => mdec cc (pc + 4) (.ldc is) 2 | _ => mdec cc (pc + 4) (.ldc_w is) 3) && (mdec cc (pc + 4 + (match wide with | 0 => 2 | _ => 3)) (.invokespecial ic) 3 && mdec cc (pc + 4 + (match wide with | 0 => 2 | _ => 3) + 3) .athrow 1)))))
    | _, _ => false))
  | _ => false
section MCK
variable (tb : Nat → mTe) (NM : Nat) (own : String) (cc : ByteArray) (nL : Nat) (hh : List (Nat × Nat × Nat × Nat)) (init : Bool)
def mok1 (i : Instr) (len w a b d : Nat) (ps : List (Nat × Nat)) (pc : Nat) : Bool := match i with
  | .goto off => decide (len = 3) && decide ((pc : Int) + off = (a : Int))
  | .ifCond _ off => decide (len = 3) && decide ((pc : Int) + off = (a : Int))
  | .if_icmp _ off => decide (len = 3) && decide ((pc : Int) + off = (a : Int))
  | .tableswitch df lo hi offs => decide ((pc : Int) + df = (a : Int)) && (decide (hi = lo + ps.length - 1) && decide (offs.toList.map (fun z => (pc : Int) + z) = ps.map (fun q => (q.1 : Int))))
  | .istore k => decide (len = 2) && decide (k < nL)
  | .istore_n k => decide (len = 1) && decide (k.val < nL)
  | .astore k => decide (len = 2) && decide (k < nL)
  | .astore_n k => decide (len = 1) && decide (k.val < nL)
  | .lstore k => decide (len = 2) && decide (k + 1 < nL)
  | .lstore_n k => decide (len = 1) && decide (k.val + 1 < nL)
  | .iinc k z => decide (len = 3) && (decide (k < nL) && decide (Int32.ofInt z = mlit a d))
  | .idiv => decide (len = 1)
  | .irem => decide (len = 1)
  | .ldiv => decide (len = 1)
  | .getstatic k => decide (len = 3) && mwat w (.fieldLink own k "DustYard" "RAT_HAS" "[I")
  | .getfield k => decide (len = 3) && mffb own k w a b
  | .putfield k => decide (len = 3) && (mffb own k w a b && mfpb own init a b d)
  | .iaload => decide (len = 1)
  | .iastore => decide (len = 1)
  | .laload => decide (len = 1)
  | .lastore => decide (len = 1)
  | .aaload => decide (len = 1)
  | .aastore => decide (len = 1)
  | .arraylength => decide (len = 1)
  | .newarray _ => decide (len = 2)
  | .anewarray k => decide (len = 3) && mwat w (.classLink own k "DustYard$State")
  | .new k => decide (len = 3) && (match d with
    | 9 => mthb own cc pc k w a ps
    | 0 => (match ps with | [(w1, w2)] => mnwb own k w a w1 w2 | _ => false)
    | _ => false)
  | .invokevirtual k => decide (len = 3) && (match d with
    | 7 => mwat w (.methodLink own k yJ0_length_8abf5)
    | 8 => mwat w (.methodLink own k yJ0_charAt_5068e)
    | _ => (Nat.blt a NM && (decide ((tb a).2.1 = 0) && (decide (b = (tb a).2.2.1 + 1) && mwat w (.methodLink own k (tb a).1.1)))) && mhk1 own cc nL pc hh ps)
  | .invokestatic k => decide (len = 3) && (match d with
    | 2 => mwat w (.methodLink own k Lib.Math.max.name)
    | 3 => mwat w (.methodLink own k Lib.Math.min.name)
    | 4 => mwat w (.methodLink own k Lib.Math.abs.name)
    | 5 => mwat w (.methodLink own k arraycopyName)
    | _ => (Nat.blt a NM && (decide ((tb a).2.1 = 1) && (decide (b = (tb a).2.2.1) && mwat w (.methodLink own k (tb a).1.1)))) && mhk1 own cc nL pc hh ps)
  | .invokespecial k => decide (len = 3) && (match d with
    | 6 => mwat w (.methodLink own k objectInit)
    | _ => (Nat.blt a NM && (decide ((tb a).2.1 = 2) && (decide (b = (tb a).2.2.1 + 1) && (mwat w (.methodLink own k (tb a).1.1) || decide ((own, k, (tb a).1.1) ∈ mnst))))) && mhk1 own cc nL pc hh ps)
  | .ireturn => decide (len = 1)
  | .lreturn => decide (len = 1)
  | .return_ => decide (len = 1)
  | j => mfp mtx own j len w a d
def mit (i : Instr) (len w a b d : Nat) (ps : List (Nat × Nat)) (pc : Nat) : Bool := match i with
  | .nop => decide (pc = a)
  | j => mdec cc pc j len && mok1 tb NM own cc nL hh init j len w a b d ps pc
def mchk : List mIt → Nat → Bool
  | [], _ => true
  | (i, len, w, a, b, d, ps) :: is, pc => mit tb NM own cc nL hh init i len w a b d ps pc && mchk is (pc + len)
end MCK
theorem mcat_eq (ad : Nat → Nat) : ∀ l : List Value, ((l.map (mvm ad)).map fun v => v.category).sum = mcat l
  | [] => rfl
  | v :: l => by
    have ih := mcat_eq ad l
    cases v <;> simp only [List.map_cons, List.sum_cons, mvm, mcat, ih] <;> rfl
theorem mtk_dr : ∀ (n : Nat) (l : List Value), mtk n l ++ mdr n l = l
  | 0, _ => rfl
  | _ + 1, [] => rfl
  | n + 1, v :: l => by rw [mtk, mdr, List.cons_append, mtk_dr n l]
theorem mtk_len : ∀ (n : Nat) (l : List Value), mtk n l ≠ [] → True := fun _ _ _ => trivial
theorem msw_at {x : Int32} {Jf : Nat → Nat → Prop} : ∀ (ps : List (Nat × Nat)) (lo : Int), msw x Jf lo ps → ∀ (k : Nat) (t m : Nat), ps[k]? = some (t, m) → x.toInt = lo + k → Jf t m
  | [], _, _, k, t, m, h, _ => by simp at h
  | (t0, m0) :: ps, lo, hs, 0, t, m, h, e => by
    rw [List.getElem?_cons_zero] at h
    cases h
    exact hs.1 (by rw [e]; simp)
  | (t0, m0) :: ps, lo, hs, k + 1, t, m, h, e => by
    rw [List.getElem?_cons_succ] at h
    exact msw_at ps (lo + 1) hs.2 k t m h (by rw [e]; push_cast; omega)
theorem mRl_kl {s : State} {D : va_G} {cy : mCy} {A : Nat → Prop} {nL : Nat} {ad : Nat → Nat} {L : mLc} {sh : List mSh} {σ : mSg} {H : Heap} {locs : List Loc} {ls : Array Slot} (b : Nat) (h : mRl s D cy A nL ad L sh σ H locs ls) : mRl s D cy A nL ad (mkl b L) sh σ H locs ls := ⟨h.1, h.2.1, h.2.2.1, mLR_kl b h.2.2.2⟩
theorem mwat_in {k : Nat} {w : Cond} (h : mwat k w = true) : w ∈ gtbl := mgood k h
theorem kM_static_max : Cond.static Lib.Math.max.name ∈ gtbl := mgood 615 (by decide +kernel)
theorem kM_static_min : Cond.static Lib.Math.min.name ∈ gtbl := mgood 528 (by decide +kernel)
theorem kM_static_abs : Cond.static Lib.Math.abs.name ∈ gtbl := mgood 1071 (by decide +kernel)
theorem kM_code_max : Cond.code Lib.Math.max.name Lib.Math.max.code 2 (some .int) ∈ gtbl := mgood 616 (by decide +kernel)
theorem kM_code_min : Cond.code Lib.Math.min.name Lib.Math.min.code 2 (some .int) ∈ gtbl := mgood 529 (by decide +kernel)
theorem kM_code_abs : Cond.code Lib.Math.abs.name Lib.Math.abs.code 1 (some .int) ∈ gtbl := mgood 1072 (by decide +kernel)
theorem kM_init : Cond.initialized "java/lang/Math" ∈ gtbl := mgood 135 (by decide +kernel)
theorem kM_obj : Cond.instanceMethod objectInit ∈ gtbl := mgood 152 (by decide +kernel)
theorem kM_objc : Cond.code objectInit ⟨#[0xb1]⟩ 1 none ∈ gtbl := mgood 153 (by decide +kernel)
theorem kM_arrI : Cond.arrayClass .int ∈ gtbl := mgood 184 (by decide +kernel)
theorem kM_arrJ : Cond.arrayClass .long ∈ gtbl := mgood 2338 (by decide +kernel)
theorem gM_length : GoodIn gtbl (wJ0_length_8abf5) := mgG fun w hw => by
  rcases List.mem_cons.mp hw with rfl | z
  · exact mgood 724 (by decide +kernel)
  · exact z
theorem gM_charAt : GoodIn gtbl (wJ0_charAt_5068e) := mgG fun w hw => by
  rcases List.mem_cons.mp hw with rfl | z
  · exact mgood 734 (by decide +kernel)
  · exact z
theorem kM_li : Cond.instanceMethod yJ0_length_8abf5 ∈ gtbl := mgood 722 (by decide +kernel)
theorem kM_ls : Cond.selects RJ0 yJ0_length_8abf5 yJ0_length_8abf5 ∈ gtbl := mgood 723 (by decide +kernel)
theorem kM_ci : Cond.instanceMethod yJ0_charAt_5068e ∈ gtbl := mgood 732 (by decide +kernel)
theorem kM_cs : Cond.selects RJ0 yJ0_charAt_5068e yJ0_charAt_5068e ∈ gtbl := mgood 733 (by decide +kernel)
theorem kM_si : Cond.initialized RJ0 ∈ gtbl := mgood 131 (by decide +kernel)
theorem mstl_lt : mstl.all (fun l => l.all (fun z => decide (z < 256)) && decide (l.length < 100)) = true := by decide +kernel
theorem mstl_len : mstl.length = 89 := by decide +kernel
theorem mstr_ok {i : Nat} (h : ¬ mstr i = []) : i < 89 ∧ (mstr i).length < 100 ∧ ∀ k, (mstr i).getD k 0 < 256 := by
  unfold mstr at h ⊢
  rw [mnx_eq] at h ⊢
  cases hi : mstl[i]? with
  | none => rw [hi] at h; exact absurd rfl h
  | some l =>
    have h1 := List.all_eq_true.mp mstl_lt l (List.mem_of_getElem? hi)
    simp only [Bool.and_eq_true, decide_eq_true_eq, List.all_eq_true] at h1
    refine ⟨by rw [← mstl_len]; exact (List.getElem?_eq_some_iff.mp hi).1, h1.2, fun k => ?_⟩
    simp only [Option.getD_some]
    rw [List.getD_eq_getElem?_getD]
    cases hk : l[k]? with
    | none => simp
    | some z => exact h1.1 z (List.mem_of_getElem? hk)
