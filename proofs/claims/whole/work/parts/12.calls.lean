/-! ===== BEGIN a constructor that throws (launches without stack traces) ===== -/
section VXIA
variable {p : Program} {l : Launch} {e : Env} {R : Room} {s : State} {m : MethodId} {args : Array Value} {below : List Frame} {meth : Method} {c : Code} {T : State} {locs : List Loc} {cells slots : Nat}
theorem vx_callI (X : Stand p l e R s m args below meth c T locs cells slots) (hexec : p.tables.exec = Jvm.exec) {own : String} {index : Nat} {y : MethodName} {bytes : ByteArray} {maxL : Nat}
    (hown : s.vm.findClass own = some m.cls) (hy1 : y.name = "<init>") (hlink : (Cond.methodLink own index y).before args s = true) (hinst : (Cond.instanceMethod y).before args s = true)
    (hcode : (Cond.code y bytes maxL none).before args s = true) (hy : y.cls ≠ "java/lang/invoke/MethodHandle" ∧ y.cls ≠ "java/lang/invoke/VarHandle")
    {W9 : Nat} {Pre : Pt → Array Value → Prop} {Post : Pt → Array Value → Option Value → Pt → Prop} {PostX : Pt → Array Value → Addr → Pt → Prop} (hK : vx_Back l R p e below s args y 3 W9 Pre Post PostX)
    {g : JFrame} (hg : g.method = m) (hsize : g.locals.size = c.maxLocals) {a : Addr} {argsL rest : List Value} (hlen : ∀ sig, parseMethodDescriptor y.desc = some sig → argsL.length = sig.parameters.length)
    (hstack : g.stack = argsL.reverse ++ .ref a :: rest) (hW : 2 * g.monitorRoom + (rest.map fun v => v.category).sum ≤ W9) (hdg : decode c.code g.pc = .ok (.invokespecial index, 3))
    (hpre : ∀ vm₁, s.WarmedH vm₁ → Pre ⟨T.setVm vm₁, locs, cells, slots⟩ (Value.ref a :: argsL).toArray) :
    (∃ (v : Option Value) (vm₁ : Vm) (B : Pt), s.WarmedH vm₁ ∧ Stand p l e R s m args below meth c B.U B.locs B.cells B.slots ∧ Post ⟨T.setVm vm₁, locs, cells, slots⟩ (Value.ref a :: argsL).toArray v B ∧
      ∀ target, Steps p.tables e below (B.U.setTop { g with pc := g.pc + 3, stack := v.toList ++ rest }) target → Steps p.tables e below (T.setTop g) target) ∨
    (∃ (q : Addr) (vm₁ : Vm) (B : Pt), s.WarmedH vm₁ ∧ Stand p l e R s m args below meth c B.U B.locs B.cells B.slots ∧ PostX ⟨T.setVm vm₁, locs, cells, slots⟩ (Value.ref a :: argsL).toArray q B ∧
      Steps p.tables e below (T.setTop g) ((B.U.setTop { g with stack := rest }).pushFrame (.throwing q))) := by
  subst hg
  have hpl : e.platform.magicAccessors = ({} : Platform).magicAccessors := by rw [X.admits.platform]
  obtain ⟨mk, methM, cM, kP, vm₁, hnamed, hmethM, hcodeM, -, hlocalsM, -, hkP, -, hW₁, hstep₁⟩ := Steps.initColdArgs (e := e) X.here hexec X.warmed hpl hown hy1 hy hlink hinst hcode (f := g) rfl hlen hstack hdg
  have X₁ := X.noted hW₁
  rcases hK g.method meth c ⟨T.setVm vm₁, locs, cells, slots⟩ { g with stack := rest } (.invokespecial index) mk (Value.ref a :: argsL).toArray X₁ rfl hsize hdg hW (X₁.named hnamed) (hpre vm₁ X₁.warmed) with ⟨v, B, X', hpost, hsteps⟩ | ⟨q, B, X', hpost, hsteps⟩
  · exact Or.inl ⟨v, vm₁, B, X₁.warmed, X', hpost, fun target h => hstep₁ _ fun acts => by rw [doInvoke_state]; exact hsteps.trans h⟩
  · exact Or.inr ⟨q, vm₁, B, X₁.warmed, X', hpost, hstep₁ _ fun acts => by rw [doInvoke_state]; exact hsteps⟩
end VXIA
section VXIB
variable {p : Program} {l : Launch} {e : Env} {R : Room} {s : State} {m : MethodId} {args : Array Value} {below : List Frame} {meth : Method} {c : Code} {H : Heap} {locs : List Loc} {cells slots : Nat}
variable {y : MethodName} {bytes cc : ByteArray} {maxL nL mc ms n index : Nat} {ret : Option FieldType} {ws : List Cond} {rm : Room} {Pc : Array Value → State → Prop} {Qc : Array Value → State → Outcome → State → Prop} {XC : String → State → State → Prop} {free : Addr → Prop} {Ts : List Cond} {own C : String} {b : Addr} {As rest : List Value} {g : JFrame}
theorem vx_runI (S : CallFix p m c cc nL s args Ts own) (hM : vx_Met l y ws rm Pc Qc XC mc ms free) (cw : CallB R s args own index y bytes maxL none ws rm mc ms n ∧ y.name = "<init>" ∧ (Cond.instanceMethod y).before args s = true) (hp : PreS s H Pc (.ref b :: As))
    (hg : g.method = m) (hn : As.length = n) (hsize : g.locals.size = nL) (hstack : g.stack = As.reverse ++ .ref b :: rest) (hW : 2 * g.monitorRoom + (rest.map fun v => v.category).sum ≤ 8) (hdg : decode cc g.pc = .ok (.invokespecial index, 3)) (hf : cells + mc ≤ R.cells ∧ slots + ms ≤ R.slots) :
    vx_Run p l e R s m args below meth c H locs cells slots mc ms g rest (Qc (Value.ref b :: As).toArray) XC free := by
  have hK : vx_Back l R p e below s args y 3 8 (PreOf R mc ms Pc) (PostOf Qc mc ms free) (vx_Post XC mc ms free) := vx_callBack cw.1 hM hp.1
  obtain ⟨⟨-, -, -, -, -, -, hcode, -, hy, hlen, hl⟩, hy1, hin⟩ := cw
  obtain ⟨hx, hb, hml, ho, -⟩ := S
  have hPc := hp.2
  intro T hT X
  rcases vx_callI X hx (bytes := bytes) (maxL := maxL) ho hy1 hl hin hcode hy hK hg (hsize.trans hml.symm) (a := b) (argsL := As) (rest := rest) (fun sig h => hn.trans (hlen sig h)) hstack hW (by rw [hb]; exact hdg)
    (fun vm₁ hW₁ => ⟨hf.1, hf.2, hPc (T.setVm vm₁) hT hW₁⟩) with ⟨v, vm₁, ⟨U', l2, c2, s2⟩, hW₁, X', ⟨g', mk, t, L, e1, e2, hq, h1, hL, h2, h3⟩, st⟩ | ⟨q, vm₁, ⟨U', l2, c2, s2⟩, hW₁, X', ⟨g', mk, t, L, E, ce, e1, e2, hq, hce, hcv, hcl, h1, hL, h2, h3⟩, st⟩
  · dsimp only [Pt.U, Pt.locs, Pt.cells, Pt.slots] at X' e1 e2 h1 h2 h3 st
    subst h1; subst h2; subst h3
    exact Or.inl ⟨v, (T.setVm vm₁).calling g' mk (Value.ref b :: As).toArray, t, U', L, hT, X', hL, e1, e2, hq, st⟩
  · dsimp only [Pt.U, Pt.locs, Pt.cells, Pt.slots] at X' e1 e2 h1 h2 h3 st hcl
    subst h1; subst h2; subst h3
    exact Or.inr ⟨q, (T.setVm vm₁).calling g' mk (Value.ref b :: As).toArray, t, U', L, E, ce, hT, X', hL, e1, e2, hq, hce, hcv, vx_cls hW₁ hcl, st⟩
end VXIB
/-! ===== END ===== -/
/-! ===== BEGIN a private constructor of a nest mate that throws ===== -/
section VXIC
variable {p : Program} {l : Launch} {e : Env} {R : Room} {s : State} {m : MethodId} {args : Array Value} {below : List Frame} {meth : Method} {c : Code} {T : State} {locs : List Loc} {cells slots : Nat}
theorem vx_callIN (X : Stand p l e R s m args below meth c T locs cells slots) (hexec : p.tables.exec = Jvm.exec) {own : String} {index : Nat} {host : String} {y : MethodName} {bytes : ByteArray} {maxL : Nat}
    (hown : s.vm.findClass own = some m.cls) (hy1 : y.name = "<init>") (hlink : (Cond.methodLinkNest own index y host).before args s = true) (hinst : (Cond.instanceMethod y).before args s = true)
    (hcode : (Cond.code y bytes maxL none).before args s = true) (hy : y.cls ≠ "java/lang/invoke/MethodHandle" ∧ y.cls ≠ "java/lang/invoke/VarHandle")
    {W9 : Nat} {Pre : Pt → Array Value → Prop} {Post : Pt → Array Value → Option Value → Pt → Prop} {PostX : Pt → Array Value → Addr → Pt → Prop} (hK : vx_Back l R p e below s args y 3 W9 Pre Post PostX)
    {g : JFrame} (hg : g.method = m) (hsize : g.locals.size = c.maxLocals) {a : Addr} {argsL rest : List Value} (hlen : ∀ sig, parseMethodDescriptor y.desc = some sig → argsL.length = sig.parameters.length)
    (hstack : g.stack = argsL.reverse ++ .ref a :: rest) (hW : 2 * g.monitorRoom + (rest.map fun v => v.category).sum ≤ W9) (hdg : decode c.code g.pc = .ok (.invokespecial index, 3))
    (hpre : ∀ vm₁, s.WarmedH vm₁ → Pre ⟨T.setVm vm₁, locs, cells, slots⟩ (Value.ref a :: argsL).toArray) :
    (∃ (v : Option Value) (vm₁ : Vm) (B : Pt), s.WarmedH vm₁ ∧ Stand p l e R s m args below meth c B.U B.locs B.cells B.slots ∧ Post ⟨T.setVm vm₁, locs, cells, slots⟩ (Value.ref a :: argsL).toArray v B ∧
      ∀ target, Steps p.tables e below (B.U.setTop { g with pc := g.pc + 3, stack := v.toList ++ rest }) target → Steps p.tables e below (T.setTop g) target) ∨
    (∃ (q : Addr) (vm₁ : Vm) (B : Pt), s.WarmedH vm₁ ∧ Stand p l e R s m args below meth c B.U B.locs B.cells B.slots ∧ PostX ⟨T.setVm vm₁, locs, cells, slots⟩ (Value.ref a :: argsL).toArray q B ∧
      Steps p.tables e below (T.setTop g) ((B.U.setTop { g with stack := rest }).pushFrame (.throwing q))) := by
  subst hg
  have hpl : e.platform.magicAccessors = ({} : Platform).magicAccessors := by rw [X.admits.platform]
  obtain ⟨mk, methM, cM, kP, vm₁, hnamed, hmethM, hcodeM, -, hlocalsM, -, hkP, -, hW₁, hstep₁⟩ := Steps.initColdArgsNest (e := e) X.here hexec X.warmed hpl hown hy1 hy hlink hinst hcode (f := g) rfl hlen hstack hdg
  have X₁ := X.noted hW₁
  rcases hK g.method meth c ⟨T.setVm vm₁, locs, cells, slots⟩ { g with stack := rest } (.invokespecial index) mk (Value.ref a :: argsL).toArray X₁ rfl hsize hdg hW (X₁.named hnamed) (hpre vm₁ X₁.warmed) with ⟨v, B, X', hpost, hsteps⟩ | ⟨q, B, X', hpost, hsteps⟩
  · exact Or.inl ⟨v, vm₁, B, X₁.warmed, X', hpost, fun target h => hstep₁ _ fun acts => by rw [doInvoke_state]; exact hsteps.trans h⟩
  · exact Or.inr ⟨q, vm₁, B, X₁.warmed, X', hpost, hstep₁ _ fun acts => by rw [doInvoke_state]; exact hsteps⟩
end VXIC
section VXID
variable {p : Program} {l : Launch} {e : Env} {R : Room} {s : State} {m : MethodId} {args : Array Value} {below : List Frame} {meth : Method} {c : Code} {H : Heap} {locs : List Loc} {cells slots : Nat}
theorem vx_runIN {y : MethodName} {bytes cc : ByteArray} {maxL nL mc ms n index : Nat} {ws : List Cond} {rm : Room} {Pc : Array Value → State → Prop} {Qc : Array Value → State → Outcome → State → Prop} {XC : String → State → State → Prop} {free : Addr → Prop} {Ts : List Cond} {own host : String} {b : Addr} {As rest : List Value} {g : JFrame}
    (S : CallFix p m c cc nL s args Ts own) (hM : vx_Met l y ws rm Pc Qc XC mc ms free) (cw : va_CN R s args own index y host bytes maxL none ws rm mc ms n ∧ y.name = "<init>" ∧ (Cond.instanceMethod y).before args s = true) (hp : PreS s H Pc (.ref b :: As))
    (hg : g.method = m) (hn : As.length = n) (hsize : g.locals.size = nL) (hstack : g.stack = As.reverse ++ .ref b :: rest) (hW : 2 * g.monitorRoom + (rest.map fun v => v.category).sum ≤ 8) (hdg : decode cc g.pc = .ok (.invokespecial index, 3)) (hf : cells + mc ≤ R.cells ∧ slots + ms ≤ R.slots) :
    vx_Run p l e R s m args below meth c H locs cells slots mc ms g rest (Qc (Value.ref b :: As).toArray) XC free := by
  obtain ⟨⟨⟨hrc, hrs, hfr, hlo, hws, hcw⟩, hcode, hini, hy, hlen, hl⟩, hx1, hx2⟩ := cw
  have hK : vx_Back l R p e below s args y 3 8 (PreOf R mc ms Pc) (PostOf Qc mc ms free) (vx_Post XC mc ms free) := vx_back (bytes := bytes) (maxL := maxL) (ret := none) hM hp.1 hrc hrs hfr hlo hws hcw (fun a' U hW => word_at hW (Or.inl (by first | rfl | simp [Cond.onTables, Cond.keeps, Cond.steady])) hini)
  obtain ⟨hx, hb, hml, ho, -⟩ := S
  have hPc := hp.2
  intro T hT X
  rcases vx_callIN X hx (bytes := bytes) (maxL := maxL) ho hx1 hl hx2 hcode hy hK hg (hsize.trans hml.symm) (a := b) (argsL := As) (rest := rest) (fun sig h => hn.trans (hlen sig h)) hstack hW (by rw [hb]; exact hdg)
    (fun vm₁ hW₁ => ⟨hf.1, hf.2, hPc (T.setVm vm₁) hT hW₁⟩) with ⟨v, vm₁, ⟨U', l2, c2, s2⟩, hW₁, X', ⟨g', mk, t, L, e1, e2, hq, h1, hL, h2, h3⟩, st⟩ | ⟨q, vm₁, ⟨U', l2, c2, s2⟩, hW₁, X', ⟨g', mk, t, L, E, ce, e1, e2, hq, hce, hcv, hcl, h1, hL, h2, h3⟩, st⟩
  · dsimp only [Pt.U, Pt.locs, Pt.cells, Pt.slots] at X' e1 e2 h1 h2 h3 st
    subst h1; subst h2; subst h3
    exact Or.inl ⟨v, (T.setVm vm₁).calling g' mk (Value.ref b :: As).toArray, t, U', L, hT, X', hL, e1, e2, hq, st⟩
  · dsimp only [Pt.U, Pt.locs, Pt.cells, Pt.slots] at X' e1 e2 h1 h2 h3 st hcl
    subst h1; subst h2; subst h3
    exact Or.inr ⟨q, (T.setVm vm₁).calling g' mk (Value.ref b :: As).toArray, t, U', L, E, ce, hT, X', hL, e1, e2, hq, hce, hcv, vx_cls hW₁ hcl, st⟩
end VXID
/-! ===== END ===== -/
/-! CALLS -/
theorem mfsE_eq : ∀ (a b : List mFs), mfsE a b = true → a = b
  | [], [], _ => rfl
  | none :: a, none :: b, h => by rw [mfsE_eq a b h]
  | some none :: a, some none :: b, h => by rw [mfsE_eq a b h]
  | some (some q) :: a, some (some q2) :: b, h => by
    simp only [mfsE, Bool.and_eq_true] at h
    rw [Nat.eq_of_beq_eq_true h.1, mfsE_eq a b h.2]
  | [], _ :: _, h => by simp [mfsE] at h
  | _ :: _, [], h => by simp [mfsE] at h
  | none :: _, some _ :: _, h => by simp [mfsE] at h
  | some none :: _, none :: _, h => by simp [mfsE] at h
  | some none :: _, some (some _) :: _, h => by simp [mfsE] at h
  | some (some _) :: _, none :: _, h => by simp [mfsE] at h
  | some (some _) :: _, some none :: _, h => by simp [mfsE] at h
theorem mrsE_eq : ∀ (a b : List (Option Nat)), mrsE a b = true → a = b
  | [], [], _ => rfl
  | none :: a, none :: b, h => by rw [mrsE_eq a b h]
  | some q :: a, some q2 :: b, h => by
    simp only [mrsE, Bool.and_eq_true] at h
    rw [Nat.eq_of_beq_eq_true h.1, mrsE_eq a b h.2]
  | [], _ :: _, h => by simp [mrsE] at h
  | _ :: _, [], h => by simp [mrsE] at h
  | none :: _, some _ :: _, h => by simp [mrsE] at h
  | some _ :: _, none :: _, h => by simp [mrsE] at h
theorem mshE_eq {a b : mSh} (h : mshE a b = true) : a = b := by
  rcases a with ⟨c, fs⟩ | n1 | n2 | rs <;> rcases b with ⟨c', fs'⟩ | m1 | m2 | rs' <;> simp only [mshE, Bool.and_eq_true, Bool.false_eq_true] at h
  · rw [Nat.eq_of_beq_eq_true h.1, mfsE_eq fs fs' h.2]
  · rw [Nat.eq_of_beq_eq_true h]
  · rw [Nat.eq_of_beq_eq_true h]
  · rw [mrsE_eq rs rs' h]
theorem mpre_at : ∀ (a b : List mSh), mpre a b = true → ∀ (j : Nat) (s : mSh), a[j]? = some s → b[j]? = some s
  | [], _, _, j, s, h => by simp at h
  | x :: a, y :: b, hp, 0, s, h => by
    simp only [mpre, Bool.and_eq_true] at hp
    rw [← mshE_eq hp.1]; exact h
  | x :: a, y :: b, hp, j + 1, s, h => by
    simp only [mpre, Bool.and_eq_true] at hp
    exact mpre_at a b hp.2 j s h
  | _ :: _, [], hp, _, _, _ => by simp [mpre] at hp
theorem mckF_ok {rg : List (Nat × Nat)} : ∀ (a b : List mFs), mckF rg a b = true → mokF (mtot rg) b = true
  | [], [], _ => rfl
  | none :: a, none :: b, h => mckF_ok a b h
  | some none :: a, some none :: b, h => mckF_ok a b h
  | some (some q) :: a, some (some q2) :: b, h => by
    simp only [mckF] at h
    split at h
    · rename_i j hj
      rw [Bool.and_eq_true] at h
      have e := Nat.eq_of_beq_eq_true h.1
      subst e
      simp only [mokF, Bool.and_eq_true]
      exact ⟨Nat.ble_eq_true_of_le (mlo_gl rg q j hj).2, mckF_ok a b h.2⟩
    · cases h
  | [], _ :: _, h => by simp [mckF] at h
  | _ :: _, [], h => by simp [mckF] at h
  | none :: _, some _ :: _, h => by simp [mckF] at h
  | some none :: _, none :: _, h => by simp [mckF] at h
  | some none :: _, some (some _) :: _, h => by simp [mckF] at h
  | some (some _) :: _, none :: _, h => by simp [mckF] at h
  | some (some _) :: _, some none :: _, h => by simp [mckF] at h
theorem mckR_ok {rg : List (Nat × Nat)} : ∀ (a b : List (Option Nat)), mckR rg a b = true → mokR (mtot rg) b = true
  | [], [], _ => rfl
  | none :: a, none :: b, h => mckR_ok a b h
  | some q :: a, some q2 :: b, h => by
    simp only [mckR] at h
    split at h
    · rename_i j hj
      rw [Bool.and_eq_true] at h
      have e := Nat.eq_of_beq_eq_true h.1
      subst e
      simp only [mokR, Bool.and_eq_true]
      exact ⟨Nat.ble_eq_true_of_le (mlo_gl rg q j hj).2, mckR_ok a b h.2⟩
    · cases h
  | [], _ :: _, h => by simp [mckR] at h
  | _ :: _, [], h => by simp [mckR] at h
  | none :: _, some _ :: _, h => by simp [mckR] at h
  | some _ :: _, none :: _, h => by simp [mckR] at h
theorem mckA_ok {rg : List (Nat × Nat)} {sh : List mSh} : ∀ (l : List mSh) (i : Nat), mckA rg sh i l = true → ∀ (j : Nat) (s : mSh), l[j]? = some s → mokS (mtot rg) [s] = true
  | [], _, _, j, s, h => by simp at h
  | x :: l, i, hc, 0, s, h => by
    simp only [mckA, Bool.and_eq_true] at hc
    rw [List.getElem?_cons_zero] at h
    cases h
    have h1 := hc.1
    generalize mnx sh (mgl rg i) = o at h1
    rcases o with _ | (⟨c, fs⟩ | n1 | n2 | rs) <;> rcases x with ⟨c', fs'⟩ | m1 | m2 | rs' <;> simp only [mck1, Bool.and_eq_true, Bool.false_eq_true] at h1
    · simp [mokS, mckF_ok fs fs' h1.2]
    · rfl
    · rfl
    · simp [mokS, mckR_ok rs rs' h1]
  | x :: l, i, hc, j + 1, s, h => by
    simp only [mckA, Bool.and_eq_true] at hc
    rw [List.getElem?_cons_succ] at h
    exact mckA_ok l (i + 1) hc.2 j s h
theorem mrv_eq {rg : List (Nat × Nat)} {ad : Nat → Nat} (hm : mtot rg ≤ 1000) : ∀ (as as2 : List Value), mrv rg as = some as2 → as2.map (mvm (mal rg ad)) = as.map (mvm ad)
  | [], as2, h => by cases h; rfl
  | v :: l, as2, h => by
    cases v with
    | ref r =>
      simp only [mrv] at h
      split at h
      · rename_i hr
        split at h
        · rename_i l2 hl
          cases h
          have e := mrv_eq (ad := ad) hm l l2 hl
          have h1 := Nat.le_of_ble_eq_true hr
          rw [List.map_cons, List.map_cons, e]
          simp only [mvm, mal, if_pos h1]
        · cases h
      · split at h
        · rename_i q hq
          split at h
          · rename_i l2 hl
            cases h
            have e := mrv_eq (ad := ad) hm l l2 hl
            rw [List.map_cons, List.map_cons, e]
            simp only [mvm, mal_lo hq hm]
          · cases h
        · cases h
    | _ =>
      simp only [mrv] at h
      split at h
      · rename_i l2 hl
        cases h
        have e := mrv_eq (ad := ad) hm l l2 hl
        rw [List.map_cons, List.map_cons, e]; rfl
      · cases h
def mAg (n : Nat) (ad2 ad : Nat → Nat) : Prop := ∀ i, (i < n ∨ 1000 ≤ i) → ad2 i = ad i
/-- a method's end: returned, or threw -/
def mQc (D : va_G) (cy : mCy) (A : Nat → Prop) (n : Nat) (ad : Nat → Nat) (Q : mPst) : Array Value → State → Outcome → State → Prop := fun _ st oc t =>
  (∃ (v : Option Value) (sh2 : List mSh) (σ2 : mSg) (ad2 : Nat → Nat), oc = .returned (v.map (mvm ad2)) ∧ Q (.inl v) sh2 σ2 ∧ (mAg n ad2 ad ∧ n ≤ sh2.length) ∧ va_P D vwCl (mwd cy ad2 σ2 0 sh2) t.heap ∧ va_D A (mwd cy ad2 σ2 0 sh2)) ∧ va_F A st t
def mXc (D : va_G) (cy : mCy) (A : Nat → Prop) (n : Nat) (ad : Nat → Nat) (Q : mPst) : String → State → State → Prop := fun E st t =>
  (∃ (x : Nat) (sh2 : List mSh) (σ2 : mSg) (ad2 : Nat → Nat), mnx mxl x = some E ∧ Q (.inr x) sh2 σ2 ∧ (mAg n ad2 ad ∧ n ≤ sh2.length) ∧ va_P D vwCl (mwd cy ad2 σ2 0 sh2) t.heap ∧ va_D A (mwd cy ad2 σ2 0 sh2)) ∧ va_F A st t
def mPr (D : va_G) (cy : mCy) (S0 : Nat) (adc adV : Nat → Nat) (as : List Value) (ad : Nat → Nat) (sh : List mSh) (σ : mSg) (sz : Nat) : Array Value → State → Prop :=
  va_Pc (as.map (mvm ad)) (fun U => U.heap.size = sz ∧ va_P D vwCl (mwd cy ad σ 0 sh) U.heap ∧ va_K D vwCl (mtys cy) U ∧ va_D (fun q => S0 ≤ q) (mwd cy ad σ 0 sh) ∧ S0 ≤ sz ∧ mEX adc adV S0 U U.heap)
/-- a method by its name: code, locals, answer, handlers -/
abbrev mMn : Type := MethodName × ByteArray × Nat × Option FieldType × List (Nat × Nat × Nat × Nat)
def mcw (q : mMn) : Cond := match q.2.2.2.2 with
  | [] => .code q.1 q.2.1 q.2.2.1 q.2.2.2.1
  | h :: hh => .codeWith q.1 q.2.1 q.2.2.1 q.2.2.2.1 (h :: hh)
def mRm (d mc ms : Nat) : Room := { frames := 20 + d, cells := mc, slots := ms, locals := 400 + 60 * d }
def mMet (l : Launch) (D : va_G) (cy : mCy) (S0 : Nat) (adc adV : Nat → Nat) (q : mMn) (d mc ms : Nat) (as : List Value) (sh : List mSh) (σ : mSg) (Q : mPst) : Prop :=
  ∀ (ad : Nat → Nat) (sz : Nat), (∀ i, 1000 ≤ i → ad i = adc i) → vx_Met l q.1 (mcw q :: gtbl) (mRm d mc ms) (mPr D cy S0 adc adV as ad sh σ sz) (mQc D cy (va_A (mwd cy ad σ 0 sh) sz) sh.length ad Q) (mXc D cy (va_A (mwd cy ad σ 0 sh) sz) sh.length ad Q) mc ms (va_A (mwd cy ad σ 0 sh) sz)
theorem mPr_blind {D : va_G} {cy : mCy} {S0 : Nat} {adc adV : Nat → Nat} {as : List Value} {ad : Nat → Nat} {sh : List mSh} {σ : mSg} {sz : Nat} : FrameBlind (mPr D cy S0 adc adV as ad sh σ sz) := fun a U g mk h => by
  obtain ⟨q0, q1, qP, qK, qD, qS, qE⟩ := h
  exact ⟨q0, q1, qP, va_K.moved (u := U) (U := U.calling g mk a) (Vm.Alike.refl U.vm) qK, qD, qS, qE.blind g mk a⟩
/-- what the tables say of a method that is called: k 0 by its object, 1 static, 2 a constructor -/
def mmb (q : mMn) (n : Nat) : Bool := decide (q.1.cls ≠ "java/lang/invoke/MethodHandle") && (decide (q.1.cls ≠ "java/lang/invoke/VarHandle") && (decide ((parseMethodDescriptor q.1.desc).map (fun d => d.parameters.length) = some n) && Nat.ble q.2.2.1 41))
theorem mmb_at {q : mMn} {n : Nat} (h : mmb q n = true) : (q.1.cls ≠ "java/lang/invoke/MethodHandle" ∧ q.1.cls ≠ "java/lang/invoke/VarHandle" ∧ (parseMethodDescriptor q.1.desc).map (fun d => d.parameters.length) = some n) ∧ q.2.2.1 ≤ 41 := by
  simp only [mmb, Bool.and_eq_true, decide_eq_true_eq] at h
  exact ⟨⟨h.1, h.2.1, h.2.2.1⟩, Nat.le_of_ble_eq_true h.2.2.2⟩
theorem mgG {X : List Cond} (h : ∀ w ∈ X, w ∈ gtbl) : GoodIn gtbl X := fun w hw => ⟨h w hw, good_of_word (List.mem_filter.mp (h w hw)).2⟩
section MCL
variable {p : Program} {l : Launch} {e : Env} {R : Room} {s : State} {m : MethodId} {args : Array Value} {below : List Frame} {meth : Method} {c : Code} {H : Heap} {locs : List Loc} {cells slots : Nat} {WQ : State → Prop}
variable {own : String} {cc : ByteArray} {nL : Nat} {D : va_G} {cy : mCy} {A : Nat → Prop} {pc : Nat} {ad : Nat → Nat} {L : mLc} {sh : List mSh} {σ : mSg} {ls : Array Slot} {rest : List Value} {S0 : Nat} {adc adV : Nat → Nat}
theorem mpr_of {as : List Value} {ad2 : Nat → Nat} {sh2 : List mSh} {σ2 : mSg} {vs : List Value} (hy : mHy p s m args c own cc nL D cy A) (h : mRl s D cy A nL ad L sh σ H locs ls) (hE : mEX adc adV S0 s s.heap) (hAS : ∀ q, A q → S0 ≤ q) (hS0 : S0 ≤ s.heap.size) (hP2 : va_P D vwCl (mwd cy ad2 σ2 0 sh2) H) (hD2 : va_D (fun q => S0 ≤ q) (mwd cy ad2 σ2 0 sh2)) (hvs : as.map (mvm ad2) = vs) :
    ∀ U : State, U.heap = H → s.WarmedH U.vm → mPr D cy S0 adc adV as ad2 sh2 σ2 H.size vs.toArray U := by
  obtain ⟨hx, hbc, hml, hown, hts, hK, hA⟩ := hy
  obtain ⟨hP, hD, hS, hL⟩ := h
  intro U hU hW
  refine ⟨by rw [hvs], by rw [hU], by rw [hU]; exact hP2, va_K.moved hW.alike hK, hD2, Nat.le_trans hS0 hS.1, ?_⟩
  rw [hU]
  exact mEX.warm hW (hE.kept fun a ha hna => hS.2.1 a ha (fun z => hna (hAS a z)))
/-- behind a call -/
theorem mW_run {mc ms : Nat} {st0 : List Value} {Qa : State → Outcome → State → Prop} {XC : String → State → State → Prop} {free : Addr → Prop} {A1 : Nat → Prop} (hr : vx_Run p l e R s m args below meth c H locs cells slots mc ms (F0 m pc ls st0) rest Qa XC free) (hS : va_S A s.heap H locs) (hA1 : ∀ q, A1 q → A q) (hf : ∀ q, free q → A q) (hq : ∀ st o t, Qa st o t → va_F A1 st t) (hx : ∀ E st t, XC E st t → va_F A1 st t)
    (kr : ∀ (v : Option Value) (st₀ t : State) (H1 : Heap) (locs1 : List Loc), Qa st₀ (.returned v) t → t.heap = H1 → (∀ q : Nat, q < H.size → ¬ A1 q → H1[q]? = H[q]?) → va_S A s.heap H1 locs1 → W p l e R s m args below meth c H1 locs1 (cells + mc) (slots + ms) WQ (F0 m (pc + 3) ls (v.toList ++ rest)))
    (kx : ∀ (E : String) (ce : Cell) (q : Addr) (st₀ t : State) (H1 : Heap) (locs1 : List Loc), XC E st₀ t → t.heap = H1 → (∀ q : Nat, q < H.size → ¬ A1 q → H1[q]? = H[q]?) → va_S A s.heap H1 locs1 → H1[q]? = some ce → ce.vm = .none → s.vm.findClass E = some ce.cls → vx_W p l e R s m args below meth c H1 locs1 (cells + mc) (slots + ms) WQ (F0 m pc ls rest) q) :
    W p l e R s m args below meth c H locs cells slots WQ (F0 m pc ls st0) := by
  intro T hT X
  rcases hr T hT X with ⟨v, st₀, t, T', L1, h0, X', hL1, e1, e2, hqa, st⟩ | ⟨q, st₀, t, T', L1, E, ce, h0, X', hL1, e1, e2, hxa, hce, hcv, hcl, st⟩
  · obtain ⟨k1, k2, k3⟩ := vx_keep h0 e1 hS (fun q _ z => hA1 q z) hf hL1 (hq _ _ _ hqa)
    obtain ⟨t2, a1, b1⟩ := kr v st₀ t T'.heap (locs ++ L1) hqa e1.symm k2 k3 T' rfl X'
    exact ⟨t2, st t2 a1, b1⟩
  · obtain ⟨k1, k2, k3⟩ := vx_keep h0 e1 hS (fun q _ z => hA1 q z) hf hL1 (hx _ _ _ hxa)
    obtain ⟨t2, a1, b1⟩ := kx E ce q st₀ t T'.heap (locs ++ L1) hxa e1.symm k2 k3 (by rw [e1]; exact hce) hcv hcl T' rfl X'
    exact ⟨t2, st.trans a1, b1⟩
end MCL
