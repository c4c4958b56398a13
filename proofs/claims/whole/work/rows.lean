section
/-! ===== BEGIN words of one list among another's, by their places ===== -/
theorem goodIn_r {big : List Cond} (ws : List Cond) (ps : List Nat) (hp : ws = ps.filterMap (fun i => big[i]?)) (h : ws.all goodWord = true) : GoodIn big ws := by
  intro w hw
  have h1 := List.all_eq_true.mp h w hw
  rw [hp] at hw
  obtain ⟨i, -, hi⟩ := List.mem_filterMap.mp hw
  have hm : w ∈ big := by first | exact List.mem_of_getElem? hi | exact List.getElem?_mem hi
  exact ⟨hm, good_of_word h1⟩
theorem goodIn_app {big a b : List Cond} (ha : GoodIn big a) (hb : GoodIn big b) : GoodIn big (a ++ b) := fun w h => (List.mem_append.mp h).elim (ha w) (hb w)
theorem goodIn_ca {big a b : List Cond} {c : Cond} (ha : GoodIn big (c :: a)) (hb : GoodIn big b) : GoodIn big (c :: (a ++ b)) := fun w h => (List.mem_cons.mp h).elim (fun e => ha w (List.mem_cons.mpr (Or.inl e))) (fun h => (List.mem_append.mp h).elim (fun h => ha w (List.mem_cons.mpr (Or.inr h))) (hb w))
theorem goodIn_sub {big ws : List Cond} (hm : ∀ w ∈ ws, w ∈ big) (h : ws.all goodWord = true) : GoodIn big ws := fun w hw => ⟨hm w hw, good_of_word (List.all_eq_true.mp h w hw)⟩
/-! ===== END ===== -/

/-! ===== BEGIN exceptions that leave a method, and their catching by the caller (launches without stack traces) ===== -/
section VXA
/-! The laws vx_back, vx_callV, vx_callS, vx_callSW, vx_throw0, vx_throwS follow proofs of the library, with one case more: JvmDerived/Free/Laws.lean (Back.of_free), Shelf42/LK1.lean (callV, callS), Shelf/KitTraced.lean (throwNew0V, throwNewS). -/
/-- where a method has thrown q: the class by its name, the cell, what was written, the world -/
def vx_T (XC : String → State → State → Prop) (st : State) (q : Addr) (t : State) (mc ms : Nat) (free : Addr → Prop) : Prop :=
  ∃ (E : String) (ce : Cell) (L : List Loc), XC E st t ∧ t.heap[q]? = some ce ∧ ce.vm = .none ∧ st.vm.findClass E = some ce.cls ∧ st.WarmedH t.vm ∧ st.sameButNew ({ t with vm := st.vm } : State) L mc ms ∧ ∀ z ∈ L, free z.base
def vx_Q (Qc : Array Value → State → Outcome → State → Prop) (XC : String → State → State → Prop) (mc ms : Nat) (free : Addr → Prop) : Array Value → State → Outcome → State → Prop := fun a st o t =>
  (Qc a st o t ∧ ∃ L, FrameEnd st o t L mc ms ∧ ∀ q ∈ L, free q.base) ∨ ∃ q, o = .threw q ∧ vx_T XC st q t mc ms free
/-- a callee that returns or throws -/
def vx_Met (l : Launch) (y : MethodName) (ws : List Cond) (rm : Room) (Pc : Array Value → State → Prop) (Qc : Array Value → State → Outcome → State → Prop) (XC : String → State → State → Prop) (mc ms : Nat) (free : Addr → Prop) : Prop :=
  MetFree l y (headSpec ws rm) Pc (fun _ _ _ _ _ => True) (vx_Q Qc XC mc ms free)
def vx_Post (XC : String → State → State → Prop) (mc ms : Nat) (free : Addr → Prop) : Pt → Array Value → Addr → Pt → Prop := fun A a q B =>
  ∃ (g : JFrame) (mk : MethodId) (t : State) (L : List Loc) (E : String) (ce : Cell), B.U.heap = t.heap ∧ B.U.vm = t.vm ∧ XC E (A.U.calling g mk a) t ∧ t.heap[q]? = some ce ∧ ce.vm = .none ∧ A.U.vm.findClass E = some ce.cls ∧ B.locs = A.locs ++ L ∧ (∀ z ∈ L, free z.base) ∧ B.cells = A.cells + mc ∧ B.slots = A.slots + ms
def vx_Back (l : Launch) (R : Room) (p : Program) (e : Env) (below : List Frame) (s : State) (sargs : Array Value) (y : MethodName) (len W9 : Nat)
    (Pre : Pt → Array Value → Prop) (Post : Pt → Array Value → Option Value → Pt → Prop) (PostX : Pt → Array Value → Addr → Pt → Prop) : Prop :=
  ∀ (m : MethodId) (meth : Method) (c : Code) (A : Pt) (g : JFrame) (ig : Instr) (mk : MethodId) (a : Array Value),
    Stand p l e R s m sargs below meth c A.U A.locs A.cells A.slots → g.method = m → g.locals.size = c.maxLocals → decode c.code g.pc = .ok (ig, len) →
    2 * g.monitorRoom + (g.stack.map fun v => v.category).sum ≤ W9 → A.U.methodNamed? y = some mk → Pre A a →
    (∃ (v : Option Value) (B : Pt), Stand p l e R s m sargs below meth c B.U B.locs B.cells B.slots ∧ Post A a v B ∧
      Steps p.tables e below (doInvoke e (A.U.setTop g) [] mk a).1 (B.U.setTop { g with pc := g.pc + len, stack := v.toList ++ g.stack })) ∨
    (∃ (q : Addr) (B : Pt), Stand p l e R s m sargs below meth c B.U B.locs B.cells B.slots ∧ PostX A a q B ∧
      Steps p.tables e below (doInvoke e (A.U.setTop g) [] mk a).1 ((B.U.setTop g).pushFrame (.throwing q)))
section Payer
variable {l : Launch} {R : Room} {p : Program} {e : Env} {below : List Frame} {s : State} {sargs : Array Value} {y : MethodName} {len W9 : Nat}
theorem vx_back {ws : List Cond} {rm : Room} {Pc : Array Value → State → Prop} {Qc : Array Value → State → Outcome → State → Prop} {XC : String → State → State → Prop} {mc ms : Nat} {free : Addr → Prop} {bytes : ByteArray} {maxL : Nat} {ret : Option FieldType}
    (hM : vx_Met l y ws rm Pc Qc XC mc ms free) (hblind : FrameBlind Pc) (hrc : rm.cells = mc) (hrs : rm.slots = ms)
    (hframes : rm.frames + 1 ≤ R.frames) (hlocals : W9 + (maxL + 11) + rm.locals ≤ R.locals)
    (hws : ∀ w ∈ ws, ∀ a' U, s.WarmedH U.vm → w.before a' U = true) (hcode : Cond.code y bytes maxL ret ∈ ws) (hinit : ∀ a' U, s.WarmedH U.vm → (Cond.initialized y.cls).before a' U = true) :
    vx_Back l R p e below s sargs y len W9 (PreOf R mc ms Pc) (PostOf Qc mc ms free) (vx_Post XC mc ms free) := by
  intro m meth c A g ig mk a X hg hsize hdg hW hn hp
  have h1 : (headSpec ws rm).pre.before a A.U = true := atoms_intro fun w hw => hws w hw _ _ X.warmed
  have h2 : (Cond.code y bytes maxL ret).before a A.U = true := hws _ hcode _ _ X.warmed
  have h3 : (Cond.initialized y.cls).before a A.U = true := hinit _ _ X.warmed
  have h4 : A.cells + (headSpec ws rm).room.cells ≤ R.cells := by rw [show (headSpec ws rm).room.cells = mc from hrc]; exact hp.1
  have h5 : A.slots + (headSpec ws rm).room.slots ≤ R.slots := by rw [show (headSpec ws rm).room.slots = ms from hrs]; exact hp.2.1
  have hPc : Pc a (A.U.calling g mk a) := hblind _ _ _ _ hp.2.2
  obtain ⟨U, Ls, c0, s0⟩ := A
  dsimp only [Pt.U, Pt.locs, Pt.cells, Pt.slots] at h1 h2 h3 h4 h5 X hn hPc ⊢
  obtain ⟨methY, cY, hmY, hcY, -, hlY, -, -, -, -⟩ := Cond.code_spec hn h2
  obtain ⟨kY, hkY, -⟩ := className_of_methodNamed hn
  have hinitY : kY.init = .initialized := Cond.initialized_spec (findClass_of_methodNamed hn) hkY h3
  have h : At U g.method c below := by rw [hg]; exact X.here
  have hlocals9 : W9 + (maxL + 11) + (headSpec ws rm).room.locals ≤ R.locals := hlocals
  have happ : (headSpec ws rm).appliesLoose y e.platform (U.calling g mk a) = true :=
    Spec.appliesLoose_calling (g := g) h hdg hn hkY hinitY
      (X.room_calling (g := g) (R' := (headSpec ws rm).room) hsize hmY hcY hframes (by rw [hlY]; omega) h4 h5) h1
  obtain ⟨mid, hmid⟩ := h.above
  have hfr : (U.setTop g).frames = (.java g :: mid) ++ below := by rw [State.frames_setTop' g h.top, hmid]; rfl
  obtain ⟨o, s₂, hsteps, -, hend, hq⟩ := Steps.callFree hM p X.admits X.cas X.clock (acts := []) hfr happ hPc trivial
  have hq' : vx_Q Qc XC mc ms free a (U.calling g mk a) o s₂ := hq
  rw [State.frames_setTop' g h.top] at hend
  obtain ⟨g₀, hg0⟩ := Option.isSome_iff_exists.mp h.top
  obtain ⟨r, hr⟩ := State.topJava?_eq_some.mp hg0
  have hr' : (({ U with heap := s₂.heap, slotsUsed := s₂.slotsUsed } : State).setVm s₂.vm).frames = .java g₀ :: r := hr
  rcases hq' with ⟨hqc, L, hfe, hL⟩ | ⟨q, rfl, E, ce, L, hx, hce, hcv, hcl, hW₂, hsm, hL⟩
  · obtain ⟨⟨v, rfl⟩, hW₂, e2, q2, q3, q4, q5, q6⟩ := id hfe
    have e3 : s₂ = ({ (U.calling g mk a).setFrames s₂.frames with heap := s₂.heap, slotsUsed := s₂.slotsUsed } : State).setVm s₂.vm := by
      have : s₂ = ({ s₂ with vm := (U.calling g mk a).vm } : State).setVm s₂.vm := rfl
      rw [e2] at this
      exact this
    obtain ⟨c₂, i₂, len₂, hc₂, hd₂, hf₂⟩ := hend
    have hW' : U.WarmedH s₂.vm := hW₂
    have hcc : c₂ = c := by
      have h1 : s₂.code? g.method = U.code? g.method := by
        rw [State.code?_eq, State.code?_eq, hW'.alike.method?]
      exact Option.some.inj (hc₂.symm.trans (h1.trans h.code))
    subst hcc
    have hlen : len₂ = len := by rw [hdg] at hd₂; cases hd₂; rfl
    subst hlen
    have hs₂ : s₂ = (({ U with heap := s₂.heap, slotsUsed := s₂.slotsUsed } : State).setVm s₂.vm).setTop { g with pc := g.pc + len₂, stack := v.toList ++ g.stack } := by
      refine e3.trans ?_
      rw [hf₂, State.calling_eq h.top, State.setFrames_setFrames, State.setTop_of_frames _ hr', hr]
      rfl
    have hsame : U.sameButNew ({ U with heap := s₂.heap, slotsUsed := s₂.slotsUsed } : State) L mc ms := by
      refine ⟨?_, q2, q3, q4, q5, q6⟩
      obtain ⟨t, ht, -⟩ := State.frames_cons hr
      show ({ U with heap := s₂.heap, slotsUsed := s₂.slotsUsed } : State) = { U.setFrames U.frames with heap := s₂.heap, slotsUsed := s₂.slotsUsed }
      rw [State.setFrames_self ht]
    subst hg
    refine Or.inl ⟨v, ⟨(({ U with heap := s₂.heap, slotsUsed := s₂.slotsUsed } : State).setVm s₂.vm), Ls ++ L, c0 + mc, s0 + ms⟩,
      ⟨X.admits, X.cas, X.clock, X.frames, X.room, X.hears, X.method, X.code, (X.here.setHeapUsed s₂.heap s₂.slotsUsed).setVm hW'.alike, X.tail, State.WarmedH.trans X.warmed hW', X.limits, X.bytes, X.same.trans (hsame.setVm s.vm)⟩,
      ⟨g, mk, s₂, L, rfl, rfl, hqc, rfl, hL, rfl, rfl⟩, ?_⟩
    show Steps p.tables e below _ ((({ U with heap := s₂.heap, slotsUsed := s₂.slotsUsed } : State).setVm s₂.vm).setTop { g with pc := g.pc + len₂, stack := v.toList ++ g.stack })
    rw [← hs₂]
    exact hsteps
  · obtain ⟨e2, q2, q3, q4, q5, q6⟩ := id hsm
    have e3 : s₂ = ({ (U.calling g mk a).setFrames s₂.frames with heap := s₂.heap, slotsUsed := s₂.slotsUsed } : State).setVm s₂.vm := by
      have : s₂ = ({ s₂ with vm := (U.calling g mk a).vm } : State).setVm s₂.vm := rfl
      rw [e2] at this
      exact this
    have hf₂ : s₂.frames = .throwing q :: .java g :: U.frames.tail := hend
    have hW' : U.WarmedH s₂.vm := hW₂
    have hs₂ : s₂ = ((({ U with heap := s₂.heap, slotsUsed := s₂.slotsUsed } : State).setVm s₂.vm).setTop g).pushFrame (.throwing q) := by
      refine e3.trans ?_
      rw [hf₂, State.calling_eq h.top, State.setFrames_setFrames, State.pushFrame, State.frames_setTop _ hr', State.setTop_of_frames _ hr', State.setFrames_setFrames, hr]
      rfl
    have hsame : U.sameButNew ({ U with heap := s₂.heap, slotsUsed := s₂.slotsUsed } : State) L mc ms := by
      refine ⟨?_, q2, q3, q4, q5, q6⟩
      obtain ⟨t, ht, -⟩ := State.frames_cons hr
      show ({ U with heap := s₂.heap, slotsUsed := s₂.slotsUsed } : State) = { U.setFrames U.frames with heap := s₂.heap, slotsUsed := s₂.slotsUsed }
      rw [State.setFrames_self ht]
    subst hg
    refine Or.inr ⟨q, ⟨(({ U with heap := s₂.heap, slotsUsed := s₂.slotsUsed } : State).setVm s₂.vm), Ls ++ L, c0 + mc, s0 + ms⟩,
      ⟨X.admits, X.cas, X.clock, X.frames, X.room, X.hears, X.method, X.code, (X.here.setHeapUsed s₂.heap s₂.slotsUsed).setVm hW'.alike, X.tail, State.WarmedH.trans X.warmed hW', X.limits, X.bytes, X.same.trans (hsame.setVm s.vm)⟩,
      ⟨g, mk, s₂, L, E, ce, rfl, rfl, hx, hce, hcv, hcl, rfl, hL, rfl, rfl⟩, ?_⟩
    show Steps p.tables e below _ (((({ U with heap := s₂.heap, slotsUsed := s₂.slotsUsed } : State).setVm s₂.vm).setTop g).pushFrame (.throwing q))
    rw [← hs₂]
    exact hsteps
end Payer
section Calls
variable {p : Program} {l : Launch} {e : Env} {R : Room} {s : State} {m : MethodId} {args : Array Value} {below : List Frame} {meth : Method} {c : Code} {T : State} {locs : List Loc} {cells slots : Nat}
theorem vx_callV (X : Stand p l e R s m args below meth c T locs cells slots) (hexec : p.tables.exec = Jvm.exec) {own C : String} {index : Nat} {y : MethodName} {bytes : ByteArray} {maxL : Nat} {ret : Option FieldType}
    (hown : s.vm.findClass own = some m.cls) (hlink : (Cond.methodLink own index y).before args s = true) (hinst : (Cond.instanceMethod y).before args s = true) (hsel : (Cond.selects C y y).before args s = true)
    (hcode : (Cond.code y bytes maxL ret).before args s = true) (hy : y.cls ≠ "java/lang/invoke/MethodHandle" ∧ y.cls ≠ "java/lang/invoke/VarHandle")
    {W9 : Nat} {Pre : Pt → Array Value → Prop} {Post : Pt → Array Value → Option Value → Pt → Prop} {PostX : Pt → Array Value → Addr → Pt → Prop} (hK : vx_Back l R p e below s args y 3 W9 Pre Post PostX)
    {b : Addr} {cellB : Cell} (hcell : T.heap[b]? = some cellB) (hobj : cellB.vm.isStatics = false) (hcls : s.vm.findClass C = some cellB.cls)
    {g : JFrame} (hg : g.method = m) (hsize : g.locals.size = c.maxLocals) {argsL rest : List Value} (hlen : ∀ sig, parseMethodDescriptor y.desc = some sig → argsL.length = sig.parameters.length)
    (hstack : g.stack = argsL.reverse ++ .ref b :: rest) (hW : 2 * g.monitorRoom + (rest.map fun v => v.category).sum ≤ W9) (hdg : decode c.code g.pc = .ok (.invokevirtual index, 3))
    (hpre : ∀ vm₁, s.WarmedH vm₁ → Pre ⟨T.setVm vm₁, locs, cells, slots⟩ (Value.ref b :: argsL).toArray) :
    (∃ (v : Option Value) (vm₁ : Vm) (B : Pt), s.WarmedH vm₁ ∧ Stand p l e R s m args below meth c B.U B.locs B.cells B.slots ∧ Post ⟨T.setVm vm₁, locs, cells, slots⟩ (Value.ref b :: argsL).toArray v B ∧
      ∀ target, Steps p.tables e below (B.U.setTop { g with pc := g.pc + 3, stack := v.toList ++ rest }) target → Steps p.tables e below (T.setTop g) target) ∨
    (∃ (q : Addr) (vm₁ : Vm) (B : Pt), s.WarmedH vm₁ ∧ Stand p l e R s m args below meth c B.U B.locs B.cells B.slots ∧ PostX ⟨T.setVm vm₁, locs, cells, slots⟩ (Value.ref b :: argsL).toArray q B ∧
      Steps p.tables e below (T.setTop g) ((B.U.setTop { g with stack := rest }).pushFrame (.throwing q))) := by
  obtain ⟨mk, methM, hnamed, hmethM, hstM, habM⟩ := Cond.instanceMethod_spec hinst
  obtain ⟨methM', cM, hmethM', -, -, -, -, -, -, hsigM⟩ := Cond.code_spec hnamed hcode
  cases hmethM.symm.trans hmethM'
  obtain ⟨c2, r2, m2, q1, q2, q3, q4, kP, hkP, hkPi⟩ := Cond.selects_spec hsel
  cases hcls.symm.trans q1
  cases (State.methodFound?_of_named hnamed hy).symm.trans q2
  cases hnamed.symm.trans q3
  have hselP : selectMethod e.platform s.vm cellB.cls mk = .method mk := by rw [Launch.admits_selectMethod X.admits]; exact q4
  obtain ⟨vm₁, X₁, hstep₁⟩ := X.invokevirtual hexec hown hlink hnamed hmethM hstM hkP hkPi hy (a := b) (cell := cellB) hcell
    (fun z h => by rw [h] at hobj; cases hobj) hselP hmethM habM hkP hkPi (g := g) hg (argsL := argsL) (rest := rest) (hlen _ hsigM) hstack hdg
  rcases hK m meth c ⟨T.setVm vm₁, locs, cells, slots⟩ { g with stack := rest } (.invokevirtual index) mk (Value.ref b :: argsL).toArray X₁ hg hsize hdg hW (X₁.named hnamed) (hpre vm₁ X₁.warmed) with ⟨v, B, X', hpost, hsteps⟩ | ⟨q, B, X', hpost, hsteps⟩
  · exact Or.inl ⟨v, vm₁, B, X₁.warmed, X', hpost, fun target h => hstep₁ _ fun acts => by rw [doInvoke_state]; exact hsteps.trans h⟩
  · exact Or.inr ⟨q, vm₁, B, X₁.warmed, X', hpost, hstep₁ _ fun acts => by rw [doInvoke_state]; exact hsteps⟩
theorem vx_callS (X : Stand p l e R s m args below meth c T locs cells slots) (hexec : p.tables.exec = Jvm.exec) {own : String} {index : Nat} {y : MethodName} {bytes : ByteArray} {maxL : Nat} {ret : Option FieldType}
    (hown : s.vm.findClass own = some m.cls) (hlink : (Cond.methodLink own index y).before args s = true) (hstat : (Cond.static y).before args s = true) (hinit : (Cond.initialized y.cls).before args s = true)
    (hcode : (Cond.code y bytes maxL ret).before args s = true) (hy : y.cls ≠ "java/lang/invoke/MethodHandle" ∧ y.cls ≠ "java/lang/invoke/VarHandle")
    {W9 : Nat} {Pre : Pt → Array Value → Prop} {Post : Pt → Array Value → Option Value → Pt → Prop} {PostX : Pt → Array Value → Addr → Pt → Prop} (hK : vx_Back l R p e below s args y 3 W9 Pre Post PostX)
    {g : JFrame} (hg : g.method = m) (hsize : g.locals.size = c.maxLocals) {argsL rest : List Value} (hlen : ∀ sig, parseMethodDescriptor y.desc = some sig → argsL.length = sig.parameters.length)
    (hstack : g.stack = argsL.reverse ++ rest) (hW : 2 * g.monitorRoom + (rest.map fun v => v.category).sum ≤ W9) (hdg : decode c.code g.pc = .ok (.invokestatic index, 3))
    (hpre : ∀ vm₁, s.WarmedH vm₁ → Pre ⟨T.setVm vm₁, locs, cells, slots⟩ argsL.toArray) :
    (∃ (v : Option Value) (vm₁ : Vm) (B : Pt), s.WarmedH vm₁ ∧ Stand p l e R s m args below meth c B.U B.locs B.cells B.slots ∧ Post ⟨T.setVm vm₁, locs, cells, slots⟩ argsL.toArray v B ∧
      ∀ target, Steps p.tables e below (B.U.setTop { g with pc := g.pc + 3, stack := v.toList ++ rest }) target → Steps p.tables e below (T.setTop g) target) ∨
    (∃ (q : Addr) (vm₁ : Vm) (B : Pt), s.WarmedH vm₁ ∧ Stand p l e R s m args below meth c B.U B.locs B.cells B.slots ∧ PostX ⟨T.setVm vm₁, locs, cells, slots⟩ argsL.toArray q B ∧
      Steps p.tables e below (T.setTop g) ((B.U.setTop { g with stack := rest }).pushFrame (.throwing q))) := by
  obtain ⟨mk, hnamed⟩ := Cond.code_named hcode
  obtain ⟨methM, cM, hmethM, -, -, -, -, -, -, hsigM⟩ := Cond.code_spec hnamed hcode
  have hstatic : methM.isStatic = true := Cond.static_spec hnamed hmethM hstat
  obtain ⟨kP, hkP, -⟩ := className_of_methodNamed hnamed
  have hinitP : kP.init = .initialized := Cond.initialized_spec (findClass_of_methodNamed hnamed) hkP hinit
  obtain ⟨vm₁, X₁, hstep₁⟩ := X.invokestatic hexec hown hlink hnamed hmethM hstatic hkP hinitP hy (g := g) hg (argsL := argsL) (rest := rest) (hlen _ hsigM) hstack hdg
  rcases hK m meth c ⟨T.setVm vm₁, locs, cells, slots⟩ { g with stack := rest } (.invokestatic index) mk argsL.toArray X₁ hg hsize hdg hW (X₁.named hnamed) (hpre vm₁ X₁.warmed) with ⟨v, B, X', hpost, hsteps⟩ | ⟨q, B, X', hpost, hsteps⟩
  · exact Or.inl ⟨v, vm₁, B, X₁.warmed, X', hpost, fun target h => hstep₁ _ fun acts => by rw [doInvoke_state]; exact hsteps.trans h⟩
  · exact Or.inr ⟨q, vm₁, B, X₁.warmed, X', hpost, hstep₁ _ fun acts => by rw [doInvoke_state]; exact hsteps⟩
end Calls
theorem vx_cls {s : State} {T : State} {vm₁ : Vm} {E : String} {k : ClassId} (hW : s.WarmedH vm₁) (h : (T.setVm vm₁).vm.findClass E = some k) : s.vm.findClass E = some k := by
  have h1 : vm₁.findClass E = some k := h
  rw [hW.alike.findClass] at h1
  exact h1
/-- the method's frame g, with q thrown over it -/
def vx_W (p : Program) (l : Launch) (e : Env) (R : Room) (s : State) (m : MethodId) (args : Array Value) (below : List Frame) (meth : Method) (c : Code) (H : Heap) (locs : List Loc) (cells slots : Nat) (Q : State → Prop) (g : JFrame) (q : Addr) : Prop :=
  ∀ T : State, T.heap = H → Stand p l e R s m args below meth c T locs cells slots → ∃ t, Steps p.tables e below ((T.setTop g).pushFrame (.throwing q)) t ∧ Q t
def vx_Run (p : Program) (l : Launch) (e : Env) (R : Room) (s : State) (m : MethodId) (args : Array Value) (below : List Frame) (meth : Method) (c : Code) (H : Heap) (locs : List Loc) (cells slots mc ms : Nat) (g : JFrame) (rest : List Value) (Qa : State → Outcome → State → Prop) (XC : String → State → State → Prop) (free : Addr → Prop) : Prop :=
  ∀ T : State, T.heap = H → Stand p l e R s m args below meth c T locs cells slots →
    (∃ (v : Option Value) (st₀ t T' : State) (L : List Loc), st₀.heap = H ∧ Stand p l e R s m args below meth c T' (locs ++ L) (cells + mc) (slots + ms) ∧ (∀ q ∈ L, free q.base) ∧ T'.heap = t.heap ∧ T'.vm = t.vm ∧ Qa st₀ (.returned v) t ∧
      Goes p e below T g T' { g with pc := g.pc + 3, stack := v.toList ++ rest }) ∨
    (∃ (q : Addr) (st₀ t T' : State) (L : List Loc) (E : String) (ce : Cell), st₀.heap = H ∧ Stand p l e R s m args below meth c T' (locs ++ L) (cells + mc) (slots + ms) ∧ (∀ z ∈ L, free z.base) ∧ T'.heap = t.heap ∧ T'.vm = t.vm ∧ XC E st₀ t ∧ t.heap[q]? = some ce ∧ ce.vm = .none ∧ s.vm.findClass E = some ce.cls ∧
      Steps p.tables e below (T.setTop g) ((T'.setTop { g with stack := rest }).pushFrame (.throwing q)))
def vx_X {S : Type} (px : S → Prop) (B : String → S → State → Prop) (A : Nat → Prop) : String → State → State → Prop := fun E st t => ∃ u : S, px u ∧ B E u t ∧ va_F A st t
section Runs
variable {p : Program} {l : Launch} {e : Env} {R : Room} {s : State} {m : MethodId} {args : Array Value} {below : List Frame} {meth : Method} {c : Code} {H : Heap} {locs : List Loc} {cells slots : Nat}
variable {y : MethodName} {bytes cc : ByteArray} {maxL nL mc ms n index : Nat} {ret : Option FieldType} {ws : List Cond} {rm : Room} {Pc : Array Value → State → Prop} {Qc : Array Value → State → Outcome → State → Prop} {XC : String → State → State → Prop} {free : Addr → Prop} {Ts : List Cond} {own C : String} {b : Addr} {As rest : List Value} {g : JFrame}
theorem vx_callBack (cb : CallB R s args own index y bytes maxL ret ws rm mc ms n) (hM : vx_Met l y ws rm Pc Qc XC mc ms free) (hbl : FrameBlind Pc) : vx_Back l R p e below s args y 3 8 (PreOf R mc ms Pc) (PostOf Qc mc ms free) (vx_Post XC mc ms free) := by
  obtain ⟨hrc, hrs, hfr, hlo, hws, hcw, -, hini, -⟩ := cb
  exact vx_back (bytes := bytes) (maxL := maxL) (ret := ret) hM hbl hrc hrs hfr hlo hws hcw (fun a' U hW => word_at hW (Or.inl (by first | rfl | simp [Cond.onTables, Cond.keeps, Cond.steady])) hini)
theorem vx_runV (S : CallFix p m c cc nL s args Ts own) (hM : vx_Met l y ws rm Pc Qc XC mc ms free) (cw : CallW R s args own C index y bytes maxL ret ws rm mc ms n) (hp : PreV s H C b Pc As)
    (hg : g.method = m) (hn : As.length = n) (hsize : g.locals.size = nL) (hstack : g.stack = As.reverse ++ .ref b :: rest) (hW : 2 * g.monitorRoom + (rest.map fun v => v.category).sum ≤ 8) (hdg : decode cc g.pc = .ok (.invokevirtual index, 3)) (hf : cells + mc ≤ R.cells ∧ slots + ms ≤ R.slots) :
    vx_Run p l e R s m args below meth c H locs cells slots mc ms g rest (Qc (Value.ref b :: As).toArray) XC free := by
  have hK : vx_Back l R p e below s args y 3 8 (PreOf R mc ms Pc) (PostOf Qc mc ms free) (vx_Post XC mc ms free) := vx_callBack cw.1 hM hp.1
  obtain ⟨⟨-, -, -, -, -, -, hcode, -, hy, hlen, hl⟩, hin, hse⟩ := cw
  obtain ⟨hx, hb, hml, ho, -⟩ := S
  obtain ⟨-, ⟨cellB, hcB, hoB, hclB⟩, hPc⟩ := hp
  intro T hT X
  rcases vx_callV X hx (C := C) (bytes := bytes) (maxL := maxL) (ret := ret) ho hl hin hse hcode hy hK (by rw [hT]; exact hcB) hoB hclB hg (hsize.trans hml.symm) (argsL := As) (rest := rest) (fun sig h => hn.trans (hlen sig h)) hstack hW (by rw [hb]; exact hdg)
    (fun vm₁ hW₁ => ⟨hf.1, hf.2, hPc (T.setVm vm₁) hT hW₁⟩) with ⟨v, vm₁, ⟨U', l2, c2, s2⟩, hW₁, X', ⟨g', mk, t, L, e1, e2, hq, h1, hL, h2, h3⟩, st⟩ | ⟨q, vm₁, ⟨U', l2, c2, s2⟩, hW₁, X', ⟨g', mk, t, L, E, ce, e1, e2, hq, hce, hcv, hcl, h1, hL, h2, h3⟩, st⟩
  · dsimp only [Pt.U, Pt.locs, Pt.cells, Pt.slots] at X' e1 e2 h1 h2 h3 st
    subst h1; subst h2; subst h3
    exact Or.inl ⟨v, (T.setVm vm₁).calling g' mk (Value.ref b :: As).toArray, t, U', L, hT, X', hL, e1, e2, hq, st⟩
  · dsimp only [Pt.U, Pt.locs, Pt.cells, Pt.slots] at X' e1 e2 h1 h2 h3 st hcl
    subst h1; subst h2; subst h3
    exact Or.inr ⟨q, (T.setVm vm₁).calling g' mk (Value.ref b :: As).toArray, t, U', L, E, ce, hT, X', hL, e1, e2, hq, hce, hcv, vx_cls hW₁ hcl, st⟩
theorem vx_runS (S : CallFix p m c cc nL s args Ts own) (hM : vx_Met l y ws rm Pc Qc XC mc ms free) (cw : CallB R s args own index y bytes maxL ret ws rm mc ms n ∧ (Cond.static y).before args s = true) (hp : PreS s H Pc As)
    (hg : g.method = m) (hn : As.length = n) (hsize : g.locals.size = nL) (hstack : g.stack = As.reverse ++ rest) (hW : 2 * g.monitorRoom + (rest.map fun v => v.category).sum ≤ 8) (hdg : decode cc g.pc = .ok (.invokestatic index, 3)) (hf : cells + mc ≤ R.cells ∧ slots + ms ≤ R.slots) :
    vx_Run p l e R s m args below meth c H locs cells slots mc ms g rest (Qc As.toArray) XC free := by
  have hK : vx_Back l R p e below s args y 3 8 (PreOf R mc ms Pc) (PostOf Qc mc ms free) (vx_Post XC mc ms free) := vx_callBack cw.1 hM hp.1
  obtain ⟨⟨-, -, -, -, -, -, hcode, hini, hy, hlen, hl⟩, hstt⟩ := cw
  obtain ⟨hx, hb, hml, ho, -⟩ := S
  intro T hT X
  rcases vx_callS X hx (bytes := bytes) (maxL := maxL) (ret := ret) ho hl hstt hini hcode hy hK hg (hsize.trans hml.symm) (argsL := As) (rest := rest) (fun sig h => hn.trans (hlen sig h)) hstack hW (by rw [hb]; exact hdg)
    (fun vm₁ hW₁ => ⟨hf.1, hf.2, hp.2 (T.setVm vm₁) hT hW₁⟩) with ⟨v, vm₁, ⟨U', l2, c2, s2⟩, hW₁, X', ⟨g', mk, t, L, e1, e2, hq, h1, hL, h2, h3⟩, st⟩ | ⟨q, vm₁, ⟨U', l2, c2, s2⟩, hW₁, X', ⟨g', mk, t, L, E, ce, e1, e2, hq, hce, hcv, hcl, h1, hL, h2, h3⟩, st⟩
  · dsimp only [Pt.U, Pt.locs, Pt.cells, Pt.slots] at X' e1 e2 h1 h2 h3 st
    subst h1; subst h2; subst h3
    exact Or.inl ⟨v, (T.setVm vm₁).calling g' mk As.toArray, t, U', L, hT, X', hL, e1, e2, hq, st⟩
  · dsimp only [Pt.U, Pt.locs, Pt.cells, Pt.slots] at X' e1 e2 h1 h2 h3 st hcl
    subst h1; subst h2; subst h3
    exact Or.inr ⟨q, (T.setVm vm₁).calling g' mk As.toArray, t, U', L, E, ce, hT, X', hL, e1, e2, hq, hce, hcv, vx_cls hW₁ hcl, st⟩
end Runs
section Rows
variable {p : Program} {l : Launch} {e : Env} {R : Room} {s : State} {m : MethodId} {args : Array Value} {below : List Frame} {meth : Method} {c : Code} {H : Heap} {locs : List Loc} {cells slots : Nat} {Q : State → Prop}
variable {mc ms : Nat} {free : Addr → Prop} {A0 A1 : Nat → Prop} {H0 : Heap} {a : Array Value} {pc : Nat} {ls : Array Slot} {st0 rest : List Value}
theorem vx_keep {st₀ t T' : State} {L : List Loc} (h0 : st₀.heap = H) (e1 : T'.heap = t.heap) (hS : va_S A0 H0 H locs) (hA : ∀ q, q < H.size → A1 q → A0 q) (hf : ∀ q, free q → A0 q) (hL : ∀ q ∈ L, free q.base) (hF : va_F A1 st₀ t) :
    H.size ≤ T'.heap.size ∧ (∀ q : Nat, q < H.size → ¬ A1 q → T'.heap[q]? = H[q]?) ∧ va_S A0 H0 T'.heap (locs ++ L) := by
  obtain ⟨hz, hk⟩ := hF
  rw [h0] at hz hk
  exact ⟨by rw [e1]; exact hz, fun q h1 h2 => by rw [e1]; exact hk q h1 h2,
    ⟨Nat.le_trans hS.1 (by rw [e1]; exact hz), fun q h1 h2 => by rw [e1, hk q (Nat.lt_of_lt_of_le h1 hS.1) (fun z => h2 (hA q (Nat.lt_of_lt_of_le h1 hS.1) z))]; exact hS.2.1 q h1 h2, fun q hq => by
      rcases List.mem_append.mp hq with h | h
      · exact hS.2.2 q h
      · exact hf _ (hL q h)⟩⟩
theorem vx_calli {S SX : Type} {post : Int32 → S → Prop} {px : SX → Prop} {B : S → State → Prop} {BX : String → SX → State → Prop} {AX : Nat → Prop} (hr : vx_Run p l e R s m args below meth c H locs cells slots mc ms (F0 m pc ls st0) rest (va_Qi post B A1 a) (vx_X px BX AX) free) (hS : va_S A0 H0 H locs) (hA : ∀ q, q < H.size → A1 q → A0 q) (hf : ∀ q, free q → A0 q) (hAX : ∀ q, q < H.size → AX q → A0 q)
    (kx : ∀ (E : String) (ce : Cell) (q9 : Addr) (u : SX) (t : State) (H1 : Heap) (locs1 : List Loc), t.heap = H1 → s.vm.Alike t.vm → px u → BX E u t → H.size ≤ H1.size → (∀ q : Nat, q < H.size → ¬ AX q → H1[q]? = H[q]?) → va_S A0 H0 H1 locs1 → H1[q9]? = some ce → ce.vm = .none → s.vm.findClass E = some ce.cls → vx_W p l e R s m args below meth c H1 locs1 (cells + mc) (slots + ms) Q (F0 m pc ls rest) q9)
    (kk : ∀ (r : Int32) (u : S) (t : State) (H1 : Heap) (locs1 : List Loc), t.heap = H1 → s.vm.Alike t.vm → post r u → B u t → H.size ≤ H1.size → (∀ q : Nat, q < H.size → ¬ A1 q → H1[q]? = H[q]?) → va_S A0 H0 H1 locs1 → W p l e R s m args below meth c H1 locs1 (cells + mc) (slots + ms) Q (F0 m (pc + 3) ls (.int r :: rest))) : W p l e R s m args below meth c H locs cells slots Q (F0 m pc ls st0) := by
  intro T hT X
  rcases hr T hT X with ⟨v, st₀, t, T', L, h0, X', hL, e1, e2, ⟨⟨r, u, hv, hp, hb⟩, hF⟩, st⟩ | ⟨q, st₀, t, T', L, E, ce, h0, X', hL, e1, e2, ⟨u, hp, hb, hF⟩, hce, hcv, hcl, st⟩
  · cases hv
    obtain ⟨k1, k2, k3⟩ := vx_keep h0 e1 hS hA hf hL hF
    obtain ⟨t2, a1, b1⟩ := kk r u t T'.heap (locs ++ L) e1.symm (by rw [← e2]; exact X'.warmed.alike) hp hb k1 k2 k3 T' rfl X'
    exact ⟨t2, st t2 a1, b1⟩
  · obtain ⟨k1, k2, k3⟩ := vx_keep h0 e1 hS hAX hf hL hF
    obtain ⟨t2, a1, b1⟩ := kx E ce q u t T'.heap (locs ++ L) e1.symm (by rw [← e2]; exact X'.warmed.alike) hp hb k1 k2 k3 (by rw [e1]; exact hce) hcv hcl T' rfl X'
    exact ⟨t2, st.trans a1, b1⟩
theorem vx_calll {S SX : Type} {post : Int64 → S → Prop} {px : SX → Prop} {B : S → State → Prop} {BX : String → SX → State → Prop} {AX : Nat → Prop} (hr : vx_Run p l e R s m args below meth c H locs cells slots mc ms (F0 m pc ls st0) rest (va_Ql post B A1 a) (vx_X px BX AX) free) (hS : va_S A0 H0 H locs) (hA : ∀ q, q < H.size → A1 q → A0 q) (hf : ∀ q, free q → A0 q) (hAX : ∀ q, q < H.size → AX q → A0 q)
    (kx : ∀ (E : String) (ce : Cell) (q9 : Addr) (u : SX) (t : State) (H1 : Heap) (locs1 : List Loc), t.heap = H1 → s.vm.Alike t.vm → px u → BX E u t → H.size ≤ H1.size → (∀ q : Nat, q < H.size → ¬ AX q → H1[q]? = H[q]?) → va_S A0 H0 H1 locs1 → H1[q9]? = some ce → ce.vm = .none → s.vm.findClass E = some ce.cls → vx_W p l e R s m args below meth c H1 locs1 (cells + mc) (slots + ms) Q (F0 m pc ls rest) q9)
    (kk : ∀ (r : Int64) (u : S) (t : State) (H1 : Heap) (locs1 : List Loc), t.heap = H1 → s.vm.Alike t.vm → post r u → B u t → H.size ≤ H1.size → (∀ q : Nat, q < H.size → ¬ A1 q → H1[q]? = H[q]?) → va_S A0 H0 H1 locs1 → W p l e R s m args below meth c H1 locs1 (cells + mc) (slots + ms) Q (F0 m (pc + 3) ls (.long r :: rest))) : W p l e R s m args below meth c H locs cells slots Q (F0 m pc ls st0) := by
  intro T hT X
  rcases hr T hT X with ⟨v, st₀, t, T', L, h0, X', hL, e1, e2, ⟨⟨r, u, hv, hp, hb⟩, hF⟩, st⟩ | ⟨q, st₀, t, T', L, E, ce, h0, X', hL, e1, e2, ⟨u, hp, hb, hF⟩, hce, hcv, hcl, st⟩
  · cases hv
    obtain ⟨k1, k2, k3⟩ := vx_keep h0 e1 hS hA hf hL hF
    obtain ⟨t2, a1, b1⟩ := kk r u t T'.heap (locs ++ L) e1.symm (by rw [← e2]; exact X'.warmed.alike) hp hb k1 k2 k3 T' rfl X'
    exact ⟨t2, st t2 a1, b1⟩
  · obtain ⟨k1, k2, k3⟩ := vx_keep h0 e1 hS hAX hf hL hF
    obtain ⟨t2, a1, b1⟩ := kx E ce q u t T'.heap (locs ++ L) e1.symm (by rw [← e2]; exact X'.warmed.alike) hp hb k1 k2 k3 (by rw [e1]; exact hce) hcv hcl T' rfl X'
    exact ⟨t2, st.trans a1, b1⟩
theorem vx_callf {S SX : Type} {post : UInt32 → S → Prop} {px : SX → Prop} {B : S → State → Prop} {BX : String → SX → State → Prop} {AX : Nat → Prop} (hr : vx_Run p l e R s m args below meth c H locs cells slots mc ms (F0 m pc ls st0) rest (va_Qf post B A1 a) (vx_X px BX AX) free) (hS : va_S A0 H0 H locs) (hA : ∀ q, q < H.size → A1 q → A0 q) (hf : ∀ q, free q → A0 q) (hAX : ∀ q, q < H.size → AX q → A0 q)
    (kx : ∀ (E : String) (ce : Cell) (q9 : Addr) (u : SX) (t : State) (H1 : Heap) (locs1 : List Loc), t.heap = H1 → s.vm.Alike t.vm → px u → BX E u t → H.size ≤ H1.size → (∀ q : Nat, q < H.size → ¬ AX q → H1[q]? = H[q]?) → va_S A0 H0 H1 locs1 → H1[q9]? = some ce → ce.vm = .none → s.vm.findClass E = some ce.cls → vx_W p l e R s m args below meth c H1 locs1 (cells + mc) (slots + ms) Q (F0 m pc ls rest) q9)
    (kk : ∀ (r : UInt32) (u : S) (t : State) (H1 : Heap) (locs1 : List Loc), t.heap = H1 → s.vm.Alike t.vm → post r u → B u t → H.size ≤ H1.size → (∀ q : Nat, q < H.size → ¬ A1 q → H1[q]? = H[q]?) → va_S A0 H0 H1 locs1 → W p l e R s m args below meth c H1 locs1 (cells + mc) (slots + ms) Q (F0 m (pc + 3) ls (.float r :: rest))) : W p l e R s m args below meth c H locs cells slots Q (F0 m pc ls st0) := by
  intro T hT X
  rcases hr T hT X with ⟨v, st₀, t, T', L, h0, X', hL, e1, e2, ⟨⟨r, u, hv, hp, hb⟩, hF⟩, st⟩ | ⟨q, st₀, t, T', L, E, ce, h0, X', hL, e1, e2, ⟨u, hp, hb, hF⟩, hce, hcv, hcl, st⟩
  · cases hv
    obtain ⟨k1, k2, k3⟩ := vx_keep h0 e1 hS hA hf hL hF
    obtain ⟨t2, a1, b1⟩ := kk r u t T'.heap (locs ++ L) e1.symm (by rw [← e2]; exact X'.warmed.alike) hp hb k1 k2 k3 T' rfl X'
    exact ⟨t2, st t2 a1, b1⟩
  · obtain ⟨k1, k2, k3⟩ := vx_keep h0 e1 hS hAX hf hL hF
    obtain ⟨t2, a1, b1⟩ := kx E ce q u t T'.heap (locs ++ L) e1.symm (by rw [← e2]; exact X'.warmed.alike) hp hb k1 k2 k3 (by rw [e1]; exact hce) hcv hcl T' rfl X'
    exact ⟨t2, st.trans a1, b1⟩
theorem vx_calld {S SX : Type} {post : UInt64 → S → Prop} {px : SX → Prop} {B : S → State → Prop} {BX : String → SX → State → Prop} {AX : Nat → Prop} (hr : vx_Run p l e R s m args below meth c H locs cells slots mc ms (F0 m pc ls st0) rest (va_Qd post B A1 a) (vx_X px BX AX) free) (hS : va_S A0 H0 H locs) (hA : ∀ q, q < H.size → A1 q → A0 q) (hf : ∀ q, free q → A0 q) (hAX : ∀ q, q < H.size → AX q → A0 q)
    (kx : ∀ (E : String) (ce : Cell) (q9 : Addr) (u : SX) (t : State) (H1 : Heap) (locs1 : List Loc), t.heap = H1 → s.vm.Alike t.vm → px u → BX E u t → H.size ≤ H1.size → (∀ q : Nat, q < H.size → ¬ AX q → H1[q]? = H[q]?) → va_S A0 H0 H1 locs1 → H1[q9]? = some ce → ce.vm = .none → s.vm.findClass E = some ce.cls → vx_W p l e R s m args below meth c H1 locs1 (cells + mc) (slots + ms) Q (F0 m pc ls rest) q9)
    (kk : ∀ (r : UInt64) (u : S) (t : State) (H1 : Heap) (locs1 : List Loc), t.heap = H1 → s.vm.Alike t.vm → post r u → B u t → H.size ≤ H1.size → (∀ q : Nat, q < H.size → ¬ A1 q → H1[q]? = H[q]?) → va_S A0 H0 H1 locs1 → W p l e R s m args below meth c H1 locs1 (cells + mc) (slots + ms) Q (F0 m (pc + 3) ls (.double r :: rest))) : W p l e R s m args below meth c H locs cells slots Q (F0 m pc ls st0) := by
  intro T hT X
  rcases hr T hT X with ⟨v, st₀, t, T', L, h0, X', hL, e1, e2, ⟨⟨r, u, hv, hp, hb⟩, hF⟩, st⟩ | ⟨q, st₀, t, T', L, E, ce, h0, X', hL, e1, e2, ⟨u, hp, hb, hF⟩, hce, hcv, hcl, st⟩
  · cases hv
    obtain ⟨k1, k2, k3⟩ := vx_keep h0 e1 hS hA hf hL hF
    obtain ⟨t2, a1, b1⟩ := kk r u t T'.heap (locs ++ L) e1.symm (by rw [← e2]; exact X'.warmed.alike) hp hb k1 k2 k3 T' rfl X'
    exact ⟨t2, st t2 a1, b1⟩
  · obtain ⟨k1, k2, k3⟩ := vx_keep h0 e1 hS hAX hf hL hF
    obtain ⟨t2, a1, b1⟩ := kx E ce q u t T'.heap (locs ++ L) e1.symm (by rw [← e2]; exact X'.warmed.alike) hp hb k1 k2 k3 (by rw [e1]; exact hce) hcv hcl T' rfl X'
    exact ⟨t2, st.trans a1, b1⟩
theorem vx_callv {S SX : Type} {post : S → Prop} {px : SX → Prop} {B : S → State → Prop} {BX : String → SX → State → Prop} {AX : Nat → Prop} (hr : vx_Run p l e R s m args below meth c H locs cells slots mc ms (F0 m pc ls st0) rest (va_Qv post B A1 a) (vx_X px BX AX) free) (hS : va_S A0 H0 H locs) (hA : ∀ q, q < H.size → A1 q → A0 q) (hf : ∀ q, free q → A0 q) (hAX : ∀ q, q < H.size → AX q → A0 q)
    (kx : ∀ (E : String) (ce : Cell) (q9 : Addr) (u : SX) (t : State) (H1 : Heap) (locs1 : List Loc), t.heap = H1 → s.vm.Alike t.vm → px u → BX E u t → H.size ≤ H1.size → (∀ q : Nat, q < H.size → ¬ AX q → H1[q]? = H[q]?) → va_S A0 H0 H1 locs1 → H1[q9]? = some ce → ce.vm = .none → s.vm.findClass E = some ce.cls → vx_W p l e R s m args below meth c H1 locs1 (cells + mc) (slots + ms) Q (F0 m pc ls rest) q9)
    (kk : ∀ (u : S) (t : State) (H1 : Heap) (locs1 : List Loc), t.heap = H1 → s.vm.Alike t.vm → post u → B u t → H.size ≤ H1.size → (∀ q : Nat, q < H.size → ¬ A1 q → H1[q]? = H[q]?) → va_S A0 H0 H1 locs1 → W p l e R s m args below meth c H1 locs1 (cells + mc) (slots + ms) Q (F0 m (pc + 3) ls (rest))) : W p l e R s m args below meth c H locs cells slots Q (F0 m pc ls st0) := by
  intro T hT X
  rcases hr T hT X with ⟨v, st₀, t, T', L, h0, X', hL, e1, e2, ⟨⟨u, hv, hp, hb⟩, hF⟩, st⟩ | ⟨q, st₀, t, T', L, E, ce, h0, X', hL, e1, e2, ⟨u, hp, hb, hF⟩, hce, hcv, hcl, st⟩
  · cases hv
    obtain ⟨k1, k2, k3⟩ := vx_keep h0 e1 hS hA hf hL hF
    obtain ⟨t2, a1, b1⟩ := kk u t T'.heap (locs ++ L) e1.symm (by rw [← e2]; exact X'.warmed.alike) hp hb k1 k2 k3 T' rfl X'
    exact ⟨t2, st t2 a1, b1⟩
  · obtain ⟨k1, k2, k3⟩ := vx_keep h0 e1 hS hAX hf hL hF
    obtain ⟨t2, a1, b1⟩ := kx E ce q u t T'.heap (locs ++ L) e1.symm (by rw [← e2]; exact X'.warmed.alike) hp hb k1 k2 k3 (by rw [e1]; exact hce) hcv hcl T' rfl X'
    exact ⟨t2, st.trans a1, b1⟩
/-- caught by the row x of this method's table; the rows ahead don't take it -/
theorem vx_catch {own name : String} {E : String} {ce : Cell} {q : Addr} (hown : s.vm.findClass own = some m.cls) (pre : List ExceptionTableEntry) (x : ExceptionTableEntry) (suf : List ExceptionTableEntry) (hsplit : c.exceptionTable.toList = pre ++ x :: suf)
    (hpass : ∀ z ∈ pre, covers z pc = false ∨ (z.catchType ≠ 0 ∧ ∃ nm : String, (Cond.classLink own z.catchType nm).before args s = true ∧ va_Nc E nm s)) (hx : covers x pc = true) (h0 : x.catchType ≠ 0)
    (hlink : (Cond.classLink own x.catchType name).before args s = true) (hcast : (Cond.castable E name).before args s = true) (hcell : H[q]? = some ce) (hv : ce.vm = .none) (hcl : s.vm.findClass E = some ce.cls)
    (kk : W p l e R s m args below meth c H locs cells slots Q (F0 m x.handlerPc ls [.ref q])) : vx_W p l e R s m args below meth c H locs cells slots Q (F0 m pc ls rest) q := by
  intro T hT X
  have hpl : e.platform.magicAccessors = ({} : Platform).magicAccessors := by rw [X.admits.platform]
  obtain ⟨c3, c4, hc3, hc4, hasg⟩ := Cond.castable_spec hcast
  cases Option.some.inj (hc3.symm.trans hcl)
  obtain ⟨c5, hc5, hcl5⟩ := Cond.classLink_spec hown hlink e.platform hpl
  cases Option.some.inj (hc4.symm.trans hc5)
  obtain ⟨vm', X', st⟩ := X.thenCaughtThrough q (g := F0 m pc ls rest) rfl (Steps.refl _) (by rw [hT]; exact hcell) (by rw [hv]; rfl) (by obtain ⟨k9, h9, -⟩ := Vm.findClass_spec hcl; exact ⟨k9, h9⟩) pre x suf hsplit
    (fun z hz => by
      rcases hpass z hz with h | ⟨hz0, nm, hl1, hn1⟩
      · exact Or.inl h
      · obtain ⟨c6, hc6, hcl6⟩ := Cond.classLink_spec hown hl1 e.platform hpl
        obtain ⟨a8, b8, h1, h2, h3⟩ := hn1
        cases Option.some.inj (h1.symm.trans hcl)
        cases Option.some.inj (h2.symm.trans hc6)
        exact Or.inr ⟨hz0, _, hcl6, h3⟩) hx (Or.inr ⟨h0, c4, hcl5, hasg⟩)
  obtain ⟨t, a1, b1⟩ := kk (T.setVm vm') hT X'
  exact ⟨t, st.trans a1, b1⟩
end Rows
section Ends
variable {p : Program} {l : Launch} {e : Env} {R : Room} {s : State} {m : MethodId} {args : Array Value} {below : List Frame} {meth : Method} {c : Code} {H : Heap} {locs : List Loc} {cells slots : Nat} {Q : State → Prop}
variable {mc ms : Nat} {free : Addr → Prop} {A0 A1 : Nat → Prop} {H0 : Heap} {a : Array Value} {ls : Array Slot} {st0 rest : List Value}
variable {Qc : Array Value → State → Outcome → State → Prop} {XC : String → State → State → Prop}
/-- what a body that may throw owes at its end -/
def vx_MQ (below : List Frame) (Qc : Array Value → State → Outcome → State → Prop) (XC : String → State → State → Prop) (a : Array Value) (s : State) (mc ms : Nat) (free : Addr → Prop) : State → Prop := fun t =>
  ∃ o, t.status = .running ∧ Ended t below o ∧ vx_Q Qc XC mc ms free a s o t
theorem vx_ret {g : JFrame} {mc ms : Nat} (k : W p l e R s m args below meth c H locs cells slots (MQ below Qc args s mc ms free) g) : W p l e R s m args below meth c H locs cells slots (vx_MQ below Qc XC args s mc ms free) g := by
  intro T hT X
  obtain ⟨t, a1, o, b1, b2, b3, b4⟩ := k T hT X
  exact ⟨t, a1, o, b1, b2, Or.inl ⟨b3, b4⟩⟩
/-- not caught here: it goes on to the caller -/
theorem vx_widen {g : JFrame} {q : Addr} {k n : Nat} (h1 : cells ≤ k) (h2 : slots ≤ n) (kk : vx_W p l e R s m args below meth c H locs k n Q g q) : vx_W p l e R s m args below meth c H locs cells slots Q g q := fun T hT X => kk T hT (stand_widen X h1 h2)
theorem vx_out {pc : Nat} {E : String} {ce : Cell} {q : Addr} {mc ms : Nat} (hout : ∀ x ∈ c.exceptionTable.toList, covers x pc = false) (hlocks : meth.locks = false) (hcell : H[q]? = some ce) (hv : ce.vm = .none) (hcl : s.vm.findClass E = some ce.cls)
    (hx : ∀ t : State, t.heap = H → s.vm.Alike t.vm → XC E s t) (hf : ∀ z ∈ locs, free z.base) (hc : cells ≤ mc) (hs : slots ≤ ms) :
    vx_W p l e R s m args below meth c H locs cells slots (vx_MQ below Qc XC args s mc ms free) (F0 m pc ls rest) q := by
  intro T hT X
  obtain ⟨st1, hrun, hend, hW, hsm⟩ := X.leaveThrown q (g := F0 m pc ls rest) rfl rfl rfl hout hlocks
  have hcell9 : (T.setFrames (.throwing q :: below)).heap[q]? = some ce := by
    show T.heap[q]? = some ce
    rw [hT]; exact hcell
  exact ⟨_, st1, .threw q, hrun, hend, Or.inr ⟨q, rfl, E, ce, locs, hx _ hT hW.alike, hcell9, hv, hcl, hW, hsm.mono hc hs, hf⟩⟩
theorem vx_frame {U : State} {k n : Nat} (h : s.sameButNew ({ U with vm := s.vm } : State) locs k n) : s.heap.size ≤ U.heap.size ∧ ∀ q : Nat, q < s.heap.size → (∀ z ∈ locs, z.base ≠ q) → U.heap[q]? = s.heap[q]? := by
  obtain ⟨-, h2, -, -, -, h6⟩ := h
  refine ⟨h2, fun q hq hz => ?_⟩
  obtain ⟨c9, e1, e2, e3, e4⟩ := h6 q _ (Array.getElem?_eq_getElem hq)
  have hs : c9.slots = (s.heap[q]).slots := Array.ext_getElem? fun i => e4 i fun hm => hz _ hm rfl
  have h9 : c9 = s.heap[q] := by
    rw [hs] at e2
    exact e2
  have e5 : U.heap[q]? = some c9 := e1
  rw [e5, h9, Array.getElem?_eq_getElem hq]
/-- the words of a throw but the four that speak of the heap -/
def vx_no (w : Cond) : Bool := decide (w ≠ .isRef (.static Bundle.tN "UNASSIGNED_STACK" Bundle.steD)) && decide (w ≠ .isRef (.static Bundle.tN "SUPPRESSED_SENTINEL" Bundle.listD)) && decide (w ≠ .laysStatic Bundle.tN "UNASSIGNED_STACK" Bundle.steD) && decide (w ≠ .laysStatic Bundle.tN "SUPPRESSED_SENTINEL" Bundle.listD)
def vx_at0 (own : String) (ic : Nat) (X : String) (names : List String) : List Cond := (Bundle.ownAtoms0 own ic X names).filter vx_no
def vx_atS (own : String) (ic : Nat) (X : String) (names : List String) : List Cond := (Bundle.ownAtoms own ic X names).filter vx_no
/-- a word that the tables alone decide, or a good one -/
def vx_ot (w : Cond) : Bool := w.onTables || goodWord w
theorem vx_ot_at {args a' : Array Value} {s U : State} {w : Cond} (hW : s.WarmedH U.vm) (hvm : s.vm = U.vm) (hg : vx_ot w = true) (h : w.before args s = true) : w.before a' U = true := by
  simp only [vx_ot, Bool.or_eq_true] at hg
  rcases hg with hg | hg
  · exact va_tabs hg hvm h
  · exact word_at hW (good_of_word hg) h
/-- a list's words: the good ones out of the method's own list, the others by premises of their own -/
theorem vx_hat {args : Array Value} {s : State} {L B : List Cond} (h1 : ∀ w ∈ L.filter goodWord, w.before args s = true) (h2 : ∀ w ∈ L.filter (fun w => !goodWord w), w ∈ B) (h3 : ∀ w ∈ B, w.before args s = true) : ∀ w ∈ L, w.before args s = true := by
  intro w hw
  by_cases g : goodWord w = true
  · exact h1 w (List.mem_filter.mpr ⟨hw, g⟩)
  · refine h3 w (h2 w (List.mem_filter.mpr ⟨hw, ?_⟩))
    show (!goodWord w) = true
    cases hgw : goodWord w
    · rfl
    · exact absurd hgw g
theorem vx_c {args : Array Value} {s : State} {w : Cond} {B : List Cond} (h : w.before args s = true) (t : ∀ w ∈ B, w.before args s = true) : ∀ w' ∈ w :: B, w'.before args s = true := fun w' h' => (List.mem_cons.mp h').elim (fun e => by rw [e]; exact h) (t w')
theorem vx_n {args : Array Value} {s : State} : ∀ w ∈ ([] : List Cond), w.before args s = true := fun _ h => nomatch h
theorem vx_own {args : Array Value} {s : State} {L : List Cond} (h1 : ∀ w ∈ L.filter vx_no, w.before args s = true)
    (hU : (Cond.isRef (.static Bundle.tN "UNASSIGNED_STACK" Bundle.steD)).before args s = true) (hN : (Cond.isRef (.static Bundle.tN "SUPPRESSED_SENTINEL" Bundle.listD)).before args s = true)
    (lU : (Cond.laysStatic Bundle.tN "UNASSIGNED_STACK" Bundle.steD).before args s = true) (lN : (Cond.laysStatic Bundle.tN "SUPPRESSED_SENTINEL" Bundle.listD).before args s = true) : ∀ w ∈ L, w.before args s = true := by
  intro w hw
  by_cases e1 : w = .isRef (.static Bundle.tN "UNASSIGNED_STACK" Bundle.steD)
  · rw [e1]; exact hU
  · by_cases e2 : w = .isRef (.static Bundle.tN "SUPPRESSED_SENTINEL" Bundle.listD)
    · rw [e2]; exact hN
    · by_cases e3 : w = .laysStatic Bundle.tN "UNASSIGNED_STACK" Bundle.steD
      · rw [e3]; exact lU
      · by_cases e4 : w = .laysStatic Bundle.tN "SUPPRESSED_SENTINEL" Bundle.listD
        · rw [e4]; exact lN
        · exact h1 w (List.mem_filter.mpr ⟨hw, by unfold vx_no; rw [decide_eq_true e1, decide_eq_true e2, decide_eq_true e3, decide_eq_true e4]; rfl⟩)
/-- where a static field lies, its class's statics cell in H -/
def vx_L (C n d : String) (A : Nat → Prop) (U : State) (H : Heap) : Prop := ∃ (c : ClassId) (k : Class) (i : Nat) (f : Field) (a : Nat) (cell : Cell), U.vm.findClass C = some c ∧ U.fieldFound? C n d = some (c, k, i, f) ∧ f.isStatic = true ∧ k.statics = some a ∧ H[a]? = some cell ∧ cell.vm.isStatics = true ∧ cell.cls = c ∧ f.slot < cell.slots.size ∧ k.staticTypes[f.slot]? = some f.type ∧ ¬ A a
theorem vx_L.moved {C n d : String} {A : Nat → Prop} {u U : State} {H : Heap} (hvm : u.vm.Alike U.vm) (h : vx_L C n d A u H) : vx_L C n d A U H := by
  obtain ⟨c, k, i, f, a, cell, h1, h2, h3, h4, h5, h6, h7, h8, h9, h10⟩ := h
  obtain ⟨k', hi', he⟩ := State.fieldFound?_setVm hvm h2
  exact ⟨c, k', i, f, a, cell, by rw [hvm.findClass]; exact h1, hi', h3, by rw [he]; exact h4, h5, h6, h7, h8, by rw [he]; exact h9, h10⟩
theorem vx_L.kept {C n d : String} {A : Nat → Prop} {U : State} {H H1 : Heap} (h : vx_L C n d A U H) (hq : ∀ a : Nat, a < H.size → ¬ A a → H1[a]? = H[a]?) : vx_L C n d A U H1 := by
  obtain ⟨c, k, i, f, a, cell, h1, h2, h3, h4, h5, h6, h7, h8, h9, h10⟩ := h
  exact ⟨c, k, i, f, a, cell, h1, h2, h3, h4, by rw [hq a (Array.getElem?_eq_some_iff.mp h5).1 h10]; exact h5, h6, h7, h8, h9, h10⟩
theorem vx_L.narrow {C n d : String} {A B : Nat → Prop} {U : State} {H : Heap} (h : vx_L C n d A U H) (hAB : ∀ q, B q → A q) : vx_L C n d B U H := by
  obtain ⟨c, k, i, f, a, cell, h1, h2, h3, h4, h5, h6, h7, h8, h9, h10⟩ := h
  exact ⟨c, k, i, f, a, cell, h1, h2, h3, h4, h5, h6, h7, h8, h9, fun z => h10 (hAB _ z)⟩
theorem vx_L.word {C n d : String} {A : Nat → Prop} {s : State} {args : Array Value} (h : vx_L C n d A s s.heap) : (Cond.laysStatic C n d).before args s = true := by
  obtain ⟨c, k, i, f, a, cell, h1, h2, h3, h4, h5, h6, h7, h8, h9, -⟩ := h
  show (Cond.laysStatic C n d).holds args s none s [] = true
  exact Cond.laysStatic_of h1 h2 h3 h4 h5 h6 h7 h8 h9
/-- .. and what it holds: null or some reference -/
def vx_Zq (C n d : String) (A : Nat → Prop) (U : State) (H : Heap) : Prop := va_Zq C n d A U H ∧ vx_L C n d A U H
theorem vx_Zq.moved {C n d : String} {A : Nat → Prop} {u U : State} {H : Heap} (hvm : u.vm.Alike U.vm) (h : vx_Zq C n d A u H) : vx_Zq C n d A U H := ⟨va_Zq.moved hvm h.1, vx_L.moved hvm h.2⟩
theorem vx_Zq.kept {C n d : String} {A : Nat → Prop} {U : State} {H H1 : Heap} (h : vx_Zq C n d A U H) (hq : ∀ a : Nat, a < H.size → ¬ A a → H1[a]? = H[a]?) : vx_Zq C n d A U H1 := ⟨va_Zq.kept h.1 hq, vx_L.kept h.2 hq⟩
theorem vx_Zq.narrow {C n d : String} {A B : Nat → Prop} {U : State} {H : Heap} (h : vx_Zq C n d A U H) (hAB : ∀ q, B q → A q) : vx_Zq C n d B U H := ⟨va_Zq.narrow h.1 hAB, vx_L.narrow h.2 hAB⟩
theorem vx_Zqof {args : Array Value} {s : State} {C n d : String} {A : Nat → Prop} (hl : (Cond.laysStatic C n d).before args s = true) (hini : (Cond.initialized C).before args s = true) (h : (Cond.isRef (.static C n d)).before args s = true) (hA : ∀ a : Nat, a < s.heap.size → ¬ A a) : vx_Zq C n d A s s.heap := by
  refine ⟨va_Zqof hl hini h hA, ?_⟩
  obtain ⟨c, k, i, f, a, cell, h1, h2, h3, h4, h5, h6, h7, h8, h9⟩ := Cond.laysStatic_spec hl
  exact ⟨c, k, i, f, a, cell, h1, h2, h3, h4, h5, h6, h7, h8, h9, hA a (Array.getElem?_eq_some_iff.mp h5).1⟩
theorem vx_isRef {C n d : String} {v : Value} {A : Nat → Prop} {s : State} {args : Array Value} (h : va_Z C n d v A s s.heap) (hv : v.isRef = true) : (Cond.isRef (.static C n d)).before args s = true := by
  obtain ⟨cf, kf, fi, f, a, cell, h1, h2, h3, h4, h5, h6, h7, -⟩ := h
  have he : (Term.static C n d).eval args s none [] s = some v := by
    simp [Term.eval, State.fieldNamed?, h1, h2, h4, h5, h6, h7]
  simp only [Cond.before, Cond.holds, Cond.value, he]
  cases v <;> simp_all [Value.isRef]
theorem vx_isRefq {C n d : String} {A : Nat → Prop} {s : State} {args : Array Value} (h : va_Zq C n d A s s.heap) : (Cond.isRef (.static C n d)).before args s = true := by
  rcases h with h | ⟨t, h⟩
  · exact vx_isRef h rfl
  · exact vx_isRef h rfl
/-- the same frame, seen from here: as if the method were called anew in this heap -/
theorem vx_rebase {T : State} (X : Stand p l e R s m args below meth c T locs cells slots) {R' : Room} (hf : R'.frames ≤ R.frames) (hl : R'.locals ≤ R.locals) (hc : cells + R'.cells ≤ R.cells) (hs : slots + R'.slots ≤ R.slots) :
    Stand p l e R' ((T.setVm s.vm).setFrames (.invoking m args :: below)) m args below meth c T [] 0 0 := by
  have htop : (T.setVm s.vm).topJava?.isSome := X.here.top
  have hF : ((T.setVm s.vm).setFrames (.invoking m args :: below)).frames = .invoking m args :: below := State.frames_setFrames _ (State.cur_lt_of_top htop)
  obtain ⟨g₀, hg0⟩ := Option.isSome_iff_exists.mp htop
  obtain ⟨r, hr⟩ := State.topJava?_eq_some.mp hg0
  have hl9 : e.platform.stackLimits (T.setVm s.vm).me = e.platform.stackLimits s.me := X.limits
  have hb9 : (T.setVm s.vm).me.stackBytes = s.me.stackBytes := X.bytes
  refine ⟨X.admits, X.cas, X.clock, hF, ?_, X.hears, X.method, X.code, X.here, X.tail, X.warmed, ?_, ?_, ?_⟩
  · have h := X.room
    have hU : ((T.setVm s.vm).setFrames (.invoking m args :: below)).localsInUse = s.localsInUse := by
      rw [State.localsInUse_invoking hF (meth := meth) (c := c) X.method X.code, State.localsInUse_invoking X.frames X.method X.code]
    simp only [State.hasRoom, Bool.and_eq_true, decide_eq_true_eq] at h ⊢
    obtain ⟨⟨⟨⟨h1, h2, h3, h4, h5, h6⟩, h7⟩, h8⟩, h9⟩ := h
    rw [X.frames, List.length_cons] at h2 h3
    have q1 := X.heapSize
    have q2 := X.used
    simp only [hF, hU, List.length_cons, State.stackLimits_setFrames, State.stackBytes_setFrames, hl9, hb9]
    refine ⟨⟨⟨⟨by omega, by omega, by omega, by omega, by omega, h6⟩, ?_⟩, ?_⟩, X.book⟩
    · show T.heap.size + R'.cells ≤ e.platform.maxCells
      omega
    · show T.slotsUsed + R'.slots ≤ e.platform.maxSlots
      omega
  · rw [State.stackLimits_setFrames]; rfl
  · rw [State.stackBytes_setFrames]; rfl
  · refine ⟨?_, Nat.le_refl _, Nat.le_refl _, ?_, ?_, fun a c9 h9 => ⟨c9, h9, rfl, rfl, fun _ _ => rfl⟩⟩
    · obtain ⟨t, ht, -⟩ := State.frames_cons hr
      show T.setVm s.vm = { ((T.setVm s.vm).setFrames (.invoking m args :: below)).setFrames (T.setVm s.vm).frames with heap := T.heap, slotsUsed := T.slotsUsed }
      rw [State.setFrames_setFrames, State.setFrames_self ht]
      rfl
    · show T.slotsUsed = T.slotsUsed + ((T.heap.toList.drop T.heap.size).map (·.slots.size)).sum
      rw [List.drop_eq_nil_of_le (Nat.le_of_eq Array.length_toList)]
      rfl
    · show ((T.heap.toList.drop T.heap.size).map (·.slots.size)).sum ≤ 0
      rw [List.drop_eq_nil_of_le (Nat.le_of_eq Array.length_toList)]
      exact Nat.le_refl _
/-- 'throw new E()': new; dup; invokespecial; athrow -/
theorem vx_throw0 {cc : ByteArray} {pc : Nat} (hexec : p.tables.exec = Jvm.exec) (hb : c.code = cc) (hl : l.stackTraces = false) {own cls : String} {names : List String} {ik ic mc ms : Nat} {A : Nat → Prop}
    (hown : s.vm.findClass own = some m.cls) (hcls : Bundle.fit cls = true) (hnames : ∀ n ∈ names, Bundle.fit n = true)
    (hk : (Cond.classLink own ik cls).before args s = true) (hini : (Cond.initialized cls).before args s = true) (hat : ∀ w ∈ vx_at0 own ic cls names, w.before args s = true)
    (hgood : ∀ w ∈ Cond.classLink own ik cls :: Cond.initialized cls :: vx_at0 own ic cls names, vx_ot w = true)
    (hU : vx_Zq Bundle.tN "UNASSIGNED_STACK" Bundle.steD A s s.heap) (hN : vx_Zq Bundle.tN "SUPPRESSED_SENTINEL" Bundle.listD A s s.heap) (hS : va_S A s.heap H locs) (hsize : ls.size = c.maxLocals)
    (d0 : decode cc pc = .ok (.new ik, 3)) (d3 : decode cc (pc + 3) = .ok (.dup, 1)) (d4 : decode cc (pc + 4) = .ok (.invokespecial ic, 3)) (d7 : decode cc (pc + 7) = .ok (.athrow, 1))
    (hout : ∀ x ∈ c.exceptionTable.toList, covers x (pc + 7) = false)
    (hRframes : names.length + 3 < R.frames) (hRlocals : (rest.map fun v => v.category).sum + (13 * (names.length + 1) + 42) ≤ R.locals) (hRcells : cells + 1 ≤ R.cells) (hRslots : slots + 6 ≤ R.slots) (hlocks : meth.locks = false)
    (hx : ∀ t : State, s.vm.Alike t.vm → H.size ≤ t.heap.size → (∀ q : Nat, q < H.size → t.heap[q]? = H[q]?) → XC cls s t)
    (hf : ∀ z ∈ locs, free z.base) (hc : cells + 1 ≤ mc) (hs : slots + 6 ≤ ms) :
    W p l e R s m args below meth c H locs cells slots (vx_MQ below Qc XC args s mc ms free) (F0 m pc ls rest) := by
  intro T hT X
  have htr : e.platform.stackTraces = false := (show e.platform.stackTraces = l.stackTraces by rw [X.admits.platform]).trans hl
  have Y := vx_rebase X (R' := { frames := R.frames, locals := R.locals, cells := 1, slots := 6 }) (Nat.le_refl _) (Nat.le_refl _) hRcells hRslots
  obtain ⟨s', hA⟩ : ∃ z, z = (T.setVm s.vm).setFrames (.invoking m args :: below) := ⟨_, rfl⟩
  rw [← hA] at Y
  have hvm : s'.vm = s.vm := by rw [hA]; rfl
  have hhp : s'.heap = H := by rw [hA]; exact hT
  have hW0 : s.WarmedH s'.vm := by rw [hvm]; exact State.WarmedH.refl s
  have hat' : ∀ w ∈ vx_at0 own ic cls names, w.before args s' = true := fun w hw => vx_ot_at hW0 hvm.symm (hgood w (List.mem_cons_of_mem _ (List.mem_cons_of_mem _ hw))) (hat w hw)
  have hk' : (Cond.classLink own ik cls).before args s' = true := vx_ot_at hW0 hvm.symm (hgood _ List.mem_cons_self) hk
  have hini' : (Cond.initialized cls).before args s' = true := vx_ot_at hW0 hvm.symm (hgood _ (List.mem_cons_of_mem _ List.mem_cons_self)) hini
  have hU' : vx_Zq Bundle.tN "UNASSIGNED_STACK" Bundle.steD A s' s'.heap := by rw [hhp]; exact vx_Zq.moved hW0.alike (hU.kept hS.2.1)
  have hN' : vx_Zq Bundle.tN "SUPPRESSED_SENTINEL" Bundle.listD A s' s'.heap := by rw [hhp]; exact vx_Zq.moved hW0.alike (hN.kept hS.2.1)
  have h : ∀ w ∈ Bundle.ownAtoms0 own ic cls names, w.before args s' = true := vx_own hat' (vx_isRefq hU'.1) (vx_isRefq hN'.1) hU'.2.word hN'.2.word
  have hown' : s'.vm.findClass own = some m.cls := by rw [hvm]; exact hown
  have hins : (Cond.instantiable cls 6).before args s' = true := h _ (by simp [Bundle.ownAtoms0])
  obtain ⟨vm₁, cX, kX, hfX, hkX, -, -, X₁, st1⟩ := Y.newCold hexec (own := own) (C := cls) (index := ik) (n := 6) hown' hk' hins hini'
    (g := F0 m pc ls rest) rfl (by rw [hb]; exact d0) (Nat.le_refl _) (Nat.le_refl _)
  generalize hT1 : (T.setVm vm₁).pushCell { cls := cX, slots := kX.instanceTypes.map defaultValue, vm := .none } = T1 at X₁ st1
  have hcat : (Value.ref T.heap.size).category = 1 := rfl
  have hcellA : T1.heap[T.heap.size]? = some (freshCell cX kX) := by rw [← hT1]; exact State.heap_pushCell_size _ _
  have d3' : decode c.code (pc + 3) = .ok (.dup, 1) := by rw [hb]; exact d3
  obtain ⟨U, hsteps, hrun, hend, hW, hsame, ce, hce, hO⟩ := X₁.ctorThrow0 hexec htr (own := own) (cls := cls) (names := names) (ic := ic) hown' hcls hnames h (fun x hx => nomatch hx) hfX hkX hcellA (by rw [hhp, hT]; exact Nat.le_refl _)
    (g := { method := m, pc := pc + 4, locals := ls, stack := .ref T.heap.size :: .ref T.heap.size :: rest, locked := none }) rfl hsize rfl rfl (rest := rest) rfl
    (by rw [hb]; exact d4) (by rw [hb]; exact d7) hout hRframes (by simp only [List.map_cons, List.sum_cons, hcat]; omega) hlocks
  obtain ⟨f1, f2⟩ := vx_frame hsame
  rw [hhp] at f1 f2
  have hWs : s.WarmedH U.vm := State.WarmedH.trans hW0 hW
  have hcl : s.vm.findClass cls = some ce.cls := by
    have h9 := hO.cls
    rw [hvm] at h9
    exact h9
  have hall : s.sameButNew ({ U with vm := s.vm } : State) locs mc ms := by
    subst hA
    obtain ⟨e1, e2⟩ := hsame
    rw [State.setFrames_setFrames] at e1
    have h2 : (T.setVm s.vm).sameButNew ({ U with vm := s.vm } : State) [] (0 + 1) (0 + 6) := ⟨e1, e2⟩
    have h3 := X.same.trans h2
    rw [List.append_nil] at h3
    exact h3.mono hc hs
  refine ⟨U, ?_, .threw T.heap.size, hrun, hend, Or.inr ⟨T.heap.size, rfl, cls, ce, locs, hx U hWs.alike f1 (fun q hq => f2 q hq (fun z hz => nomatch hz)), hce, hO.vm, hcl, hWs, hall, hf⟩⟩
  refine st1 _ ?_
  show Steps p.tables e below (T1.setTop { method := m, pc := pc + 3, locals := ls, stack := .ref T.heap.size :: rest, locked := none }) _
  jvm_step X₁.here [X₁.here.top, hexec, d3', Value.category]
  exact hsteps
/-- 'throw new E("text")': new; dup; ldc; invokespecial; athrow -/
theorem vx_throwS {cc : ByteArray} {pc : Nat} (hexec : p.tables.exec = Jvm.exec) (hb : c.code = cc) (hl : l.stackTraces = false) {own cls text : String} {names : List String} {ik is ic mc ms sa : Nat} {A : Nat → Prop}
    (hown : s.vm.findClass own = some m.cls) (hcls : Bundle.fit cls = true) (hnames : ∀ n ∈ names, Bundle.fit n = true)
    (hk : (Cond.classLink own ik cls).before args s = true) (hini : (Cond.initialized cls).before args s = true) (hstr : vk_R own is text sa s) (hat : ∀ w ∈ vx_atS own ic cls names, w.before args s = true)
    (hgood : ∀ w ∈ Cond.classLink own ik cls :: Cond.initialized cls :: vx_atS own ic cls names, vx_ot w = true)
    (hU : vx_Zq Bundle.tN "UNASSIGNED_STACK" Bundle.steD A s s.heap) (hN : vx_Zq Bundle.tN "SUPPRESSED_SENTINEL" Bundle.listD A s s.heap) (hS : va_S A s.heap H locs) (hsize : ls.size = c.maxLocals)
    (d0 : decode cc pc = .ok (.new ik, 3)) (d3 : decode cc (pc + 3) = .ok (.dup, 1)) (d4 : decode cc (pc + 4) = .ok (.ldc is, 2)) (d6 : decode cc (pc + 6) = .ok (.invokespecial ic, 3)) (d9 : decode cc (pc + 9) = .ok (.athrow, 1))
    (hout : ∀ x ∈ c.exceptionTable.toList, covers x (pc + 9) = false)
    (hRframes : names.length + 3 < R.frames) (hRlocals : (rest.map fun v => v.category).sum + (13 * (names.length + 1) + 43) ≤ R.locals) (hRcells : cells + 1 ≤ R.cells) (hRslots : slots + 6 ≤ R.slots) (hlocks : meth.locks = false)
    (hx : ∀ t : State, s.vm.Alike t.vm → H.size ≤ t.heap.size → (∀ q : Nat, q < H.size → t.heap[q]? = H[q]?) → XC cls s t)
    (hf : ∀ z ∈ locs, free z.base) (hc : cells + 1 ≤ mc) (hs : slots + 6 ≤ ms) :
    W p l e R s m args below meth c H locs cells slots (vx_MQ below Qc XC args s mc ms free) (F0 m pc ls rest) := by
  intro T hT X
  have htr : e.platform.stackTraces = false := (show e.platform.stackTraces = l.stackTraces by rw [X.admits.platform]).trans hl
  have Y := vx_rebase X (R' := { frames := R.frames, locals := R.locals, cells := 1, slots := 6 }) (Nat.le_refl _) (Nat.le_refl _) hRcells hRslots
  obtain ⟨s', hA⟩ : ∃ z, z = (T.setVm s.vm).setFrames (.invoking m args :: below) := ⟨_, rfl⟩
  rw [← hA] at Y
  have hvm : s'.vm = s.vm := by rw [hA]; rfl
  have hhp : s'.heap = H := by rw [hA]; exact hT
  have hW0 : s.WarmedH s'.vm := by rw [hvm]; exact State.WarmedH.refl s
  have hat' : ∀ w ∈ vx_atS own ic cls names, w.before args s' = true := fun w hw => vx_ot_at hW0 hvm.symm (hgood w (List.mem_cons_of_mem _ (List.mem_cons_of_mem _ hw))) (hat w hw)
  have hk' : (Cond.classLink own ik cls).before args s' = true := vx_ot_at hW0 hvm.symm (hgood _ List.mem_cons_self) hk
  have hini' : (Cond.initialized cls).before args s' = true := vx_ot_at hW0 hvm.symm (hgood _ (List.mem_cons_of_mem _ List.mem_cons_self)) hini
  have hU' : vx_Zq Bundle.tN "UNASSIGNED_STACK" Bundle.steD A s' s'.heap := by rw [hhp]; exact vx_Zq.moved hW0.alike (hU.kept hS.2.1)
  have hN' : vx_Zq Bundle.tN "SUPPRESSED_SENTINEL" Bundle.listD A s' s'.heap := by rw [hhp]; exact vx_Zq.moved hW0.alike (hN.kept hS.2.1)
  have h : ∀ w ∈ Bundle.ownAtoms own ic cls names, w.before args s' = true := vx_own hat' (vx_isRefq hU'.1) (vx_isRefq hN'.1) hU'.2.word hN'.2.word
  have hown' : s'.vm.findClass own = some m.cls := by rw [hvm]; exact hown
  have hins : (Cond.instantiable cls 6).before args s' = true := h _ (by simp [Bundle.ownAtoms])
  obtain ⟨vm₁, cX, kX, hfX, hkX, -, -, X₁, st1⟩ := Y.newCold hexec (own := own) (C := cls) (index := ik) (n := 6) hown' hk' hins hini'
    (g := F0 m pc ls rest) rfl (by rw [hb]; exact d0) (Nat.le_refl _) (Nat.le_refl _)
  generalize hT1 : (T.setVm vm₁).pushCell { cls := cX, slots := kX.instanceTypes.map defaultValue, vm := .none } = T1 at X₁ st1
  have hcat : (Value.ref T.heap.size).category = 1 := rfl
  have hcellA : T1.heap[T.heap.size]? = some (freshCell cX kX) := by rw [← hT1]; exact State.heap_pushCell_size _ _
  have d3' : decode c.code (pc + 3) = .ok (.dup, 1) := by rw [hb]; exact d3
  have d4' : decode c.code (pc + 4) = .ok (.ldc is, 2) := by rw [hb]; exact d4
  have hstr' : vk_R own is text sa s' := vk_R.warm hW0 hstr
  obtain ⟨U, hsteps, hrun, hend, hW, hsame, ce, hce, hO⟩ := X₁.ctorThrowS hexec htr (own := own) (cls := cls) (names := names) (ic := ic) hown' hcls hnames h (fun x hx => nomatch hx) hfX hkX hcellA (by rw [hhp, hT]; exact Nat.le_refl _) (msg := .ref sa) rfl
    (g := { method := m, pc := pc + 6, locals := ls, stack := .ref sa :: .ref T.heap.size :: .ref T.heap.size :: rest, locked := none }) rfl hsize rfl rfl (rest := rest) rfl
    (by rw [hb]; exact d6) (by rw [hb]; exact d9) hout hRframes (by simp only [List.map_cons, List.sum_cons, hcat]; omega) hlocks
  obtain ⟨f1, f2⟩ := vx_frame hsame
  rw [hhp] at f1 f2
  have hWs : s.WarmedH U.vm := State.WarmedH.trans hW0 hW
  have hcl : s.vm.findClass cls = some ce.cls := by
    have h9 := hO.cls
    rw [hvm] at h9
    exact h9
  have hall : s.sameButNew ({ U with vm := s.vm } : State) locs mc ms := by
    subst hA
    obtain ⟨e1, e2⟩ := hsame
    rw [State.setFrames_setFrames] at e1
    have h2 : (T.setVm s.vm).sameButNew ({ U with vm := s.vm } : State) [] (0 + 1) (0 + 6) := ⟨e1, e2⟩
    have h3 := X.same.trans h2
    rw [List.append_nil] at h3
    exact h3.mono hc hs
  refine ⟨U, ?_, .threw T.heap.size, hrun, hend, Or.inr ⟨T.heap.size, rfl, cls, ce, locs, hx U hWs.alike f1 (fun q hq => f2 q hq (fun z hz => nomatch hz)), hce, hO.vm, hcl, hWs, hall, hf⟩⟩
  refine st1 _ ?_
  show Steps p.tables e below (T1.setTop { method := m, pc := pc + 3, locals := ls, stack := .ref T.heap.size :: rest, locked := none }) _
  jvm_step X₁.here [X₁.here.top, hexec, d3', Value.category]
  exact X₁.ldcString hexec (own := own) (text := text) (index := is) (a := sa) hown' hstr'.1 hstr'.2
    (g := { method := m, pc := pc + 4, locals := ls, stack := .ref T.heap.size :: .ref T.heap.size :: rest, locked := none }) rfl d4' _ hsteps
/-- 'throw new E("text")', the text by a wide index -/
theorem vx_throwSW {cc : ByteArray} {pc : Nat} (hexec : p.tables.exec = Jvm.exec) (hb : c.code = cc) (hl : l.stackTraces = false) {own cls text : String} {names : List String} {ik is ic mc ms sa : Nat} {A : Nat → Prop}
    (hown : s.vm.findClass own = some m.cls) (hcls : Bundle.fit cls = true) (hnames : ∀ n ∈ names, Bundle.fit n = true)
    (hk : (Cond.classLink own ik cls).before args s = true) (hini : (Cond.initialized cls).before args s = true) (hstr : vk_R own is text sa s) (hat : ∀ w ∈ vx_atS own ic cls names, w.before args s = true)
    (hgood : ∀ w ∈ Cond.classLink own ik cls :: Cond.initialized cls :: vx_atS own ic cls names, vx_ot w = true)
    (hU : vx_Zq Bundle.tN "UNASSIGNED_STACK" Bundle.steD A s s.heap) (hN : vx_Zq Bundle.tN "SUPPRESSED_SENTINEL" Bundle.listD A s s.heap) (hS : va_S A s.heap H locs) (hsize : ls.size = c.maxLocals)
    (d0 : decode cc pc = .ok (.new ik, 3)) (d3 : decode cc (pc + 3) = .ok (.dup, 1)) (d4 : decode cc (pc + 4) = .ok (.ldc_w is, 3)) (d7 : decode cc (pc + 7) = .ok (.invokespecial ic, 3)) (d10 : decode cc (pc + 10) = .ok (.athrow, 1))
    (hout : ∀ x ∈ c.exceptionTable.toList, covers x (pc + 10) = false)
    (hRframes : names.length + 3 < R.frames) (hRlocals : (rest.map fun v => v.category).sum + (13 * (names.length + 1) + 43) ≤ R.locals) (hRcells : cells + 1 ≤ R.cells) (hRslots : slots + 6 ≤ R.slots) (hlocks : meth.locks = false)
    (hx : ∀ t : State, s.vm.Alike t.vm → H.size ≤ t.heap.size → (∀ q : Nat, q < H.size → t.heap[q]? = H[q]?) → XC cls s t)
    (hf : ∀ z ∈ locs, free z.base) (hc : cells + 1 ≤ mc) (hs : slots + 6 ≤ ms) :
    W p l e R s m args below meth c H locs cells slots (vx_MQ below Qc XC args s mc ms free) (F0 m pc ls rest) := by
  intro T hT X
  have htr : e.platform.stackTraces = false := (show e.platform.stackTraces = l.stackTraces by rw [X.admits.platform]).trans hl
  have Y := vx_rebase X (R' := { frames := R.frames, locals := R.locals, cells := 1, slots := 6 }) (Nat.le_refl _) (Nat.le_refl _) hRcells hRslots
  obtain ⟨s', hA⟩ : ∃ z, z = (T.setVm s.vm).setFrames (.invoking m args :: below) := ⟨_, rfl⟩
  rw [← hA] at Y
  have hvm : s'.vm = s.vm := by rw [hA]; rfl
  have hhp : s'.heap = H := by rw [hA]; exact hT
  have hW0 : s.WarmedH s'.vm := by rw [hvm]; exact State.WarmedH.refl s
  have hat' : ∀ w ∈ vx_atS own ic cls names, w.before args s' = true := fun w hw => vx_ot_at hW0 hvm.symm (hgood w (List.mem_cons_of_mem _ (List.mem_cons_of_mem _ hw))) (hat w hw)
  have hk' : (Cond.classLink own ik cls).before args s' = true := vx_ot_at hW0 hvm.symm (hgood _ List.mem_cons_self) hk
  have hini' : (Cond.initialized cls).before args s' = true := vx_ot_at hW0 hvm.symm (hgood _ (List.mem_cons_of_mem _ List.mem_cons_self)) hini
  have hU' : vx_Zq Bundle.tN "UNASSIGNED_STACK" Bundle.steD A s' s'.heap := by rw [hhp]; exact vx_Zq.moved hW0.alike (hU.kept hS.2.1)
  have hN' : vx_Zq Bundle.tN "SUPPRESSED_SENTINEL" Bundle.listD A s' s'.heap := by rw [hhp]; exact vx_Zq.moved hW0.alike (hN.kept hS.2.1)
  have h : ∀ w ∈ Bundle.ownAtoms own ic cls names, w.before args s' = true := vx_own hat' (vx_isRefq hU'.1) (vx_isRefq hN'.1) hU'.2.word hN'.2.word
  have hown' : s'.vm.findClass own = some m.cls := by rw [hvm]; exact hown
  have hins : (Cond.instantiable cls 6).before args s' = true := h _ (by simp [Bundle.ownAtoms])
  obtain ⟨vm₁, cX, kX, hfX, hkX, -, -, X₁, st1⟩ := Y.newCold hexec (own := own) (C := cls) (index := ik) (n := 6) hown' hk' hins hini'
    (g := F0 m pc ls rest) rfl (by rw [hb]; exact d0) (Nat.le_refl _) (Nat.le_refl _)
  generalize hT1 : (T.setVm vm₁).pushCell { cls := cX, slots := kX.instanceTypes.map defaultValue, vm := .none } = T1 at X₁ st1
  have hcat : (Value.ref T.heap.size).category = 1 := rfl
  have hcellA : T1.heap[T.heap.size]? = some (freshCell cX kX) := by rw [← hT1]; exact State.heap_pushCell_size _ _
  have d3' : decode c.code (pc + 3) = .ok (.dup, 1) := by rw [hb]; exact d3
  have d4' : decode c.code (pc + 4) = .ok (.ldc_w is, 3) := by rw [hb]; exact d4
  have hstr' : vk_R own is text sa s' := vk_R.warm hW0 hstr
  obtain ⟨U, hsteps, hrun, hend, hW, hsame, ce, hce, hO⟩ := X₁.ctorThrowS hexec htr (own := own) (cls := cls) (names := names) (ic := ic) hown' hcls hnames h (fun x hx => nomatch hx) hfX hkX hcellA (by rw [hhp, hT]; exact Nat.le_refl _) (msg := .ref sa) rfl
    (g := { method := m, pc := pc + 7, locals := ls, stack := .ref sa :: .ref T.heap.size :: .ref T.heap.size :: rest, locked := none }) rfl hsize rfl rfl (rest := rest) rfl
    (by rw [hb]; exact d7) (by rw [hb]; exact d10) hout hRframes (by simp only [List.map_cons, List.sum_cons, hcat]; omega) hlocks
  obtain ⟨f1, f2⟩ := vx_frame hsame
  rw [hhp] at f1 f2
  have hWs : s.WarmedH U.vm := State.WarmedH.trans hW0 hW
  have hcl : s.vm.findClass cls = some ce.cls := by
    have h9 := hO.cls
    rw [hvm] at h9
    exact h9
  have hall : s.sameButNew ({ U with vm := s.vm } : State) locs mc ms := by
    subst hA
    obtain ⟨e1, e2⟩ := hsame
    rw [State.setFrames_setFrames] at e1
    have h2 : (T.setVm s.vm).sameButNew ({ U with vm := s.vm } : State) [] (0 + 1) (0 + 6) := ⟨e1, e2⟩
    have h3 := X.same.trans h2
    rw [List.append_nil] at h3
    exact h3.mono hc hs
  refine ⟨U, ?_, .threw T.heap.size, hrun, hend, Or.inr ⟨T.heap.size, rfl, cls, ce, locs, hx U hWs.alike f1 (fun q hq => f2 q hq (fun z hz => nomatch hz)), hce, hO.vm, hcl, hWs, hall, hf⟩⟩
  refine st1 _ ?_
  show Steps p.tables e below (T1.setTop { method := m, pc := pc + 3, locals := ls, stack := .ref T.heap.size :: rest, locked := none }) _
  jvm_step X₁.here [X₁.here.top, hexec, d3', Value.category]
  exact X₁.ldcStringW hexec (own := own) (text := text) (index := is) (a := sa) hown' hstr'.1 hstr'.2
    (g := { method := m, pc := pc + 4, locals := ls, stack := .ref T.heap.size :: .ref T.heap.size :: rest, locked := none }) rfl d4' _ hsteps
end Ends
section Bodies
variable {l : Launch}
theorem vx_ofW {y : MethodName} {ws ws' : List Cond} {rm : Room} {Pc : Array Value → State → Prop} {Qc : Array Value → State → Outcome → State → Prop} {XC : String → State → State → Prop} {mc ms : Nat} {free : Addr → Prop} {cc : ByteArray} {maxL : Nat} {ret : Option FieldType}
    (hy : plainName y.cls = true) (hw : ws = Cond.code y cc maxL ret :: ws')
    (body : ∀ p e s m args below meth c s₁, BodyLoose p l y (headSpec ws rm) cc maxL ret e s m args below meth c s₁ → c.maxLocals = maxL → (∀ x ∈ c.exceptionTable.toList, False) → Pc args s →
      W p l e (headSpec ws rm).room s m args below meth c s.heap [] 0 0 (vx_MQ below Qc XC args s mc ms free) (entryFrame m args maxL)) : vx_Met l y ws rm Pc Qc XC mc ms free := by
  refine MetFree.of_bodyS (code := cc) (maxLocals := maxL) (ret := ret) hy ?_ ?_
  · intro args s m h hn
    obtain ⟨meth, c, h1, h2, h3, h4, h5, h6, -, -⟩ := Cond.code_spec hn (atoms_spec (ws := ws) h _ (by rw [hw]; exact List.mem_cons_self))
    exact ⟨meth, c, h1, h2, h3, h4, h5, h6⟩
  · intro p e s m args below meth c s₁ B hml hP _
    have hh0 : s₁.heap = s.heap := by rw [B.state]; rfl
    have ht : ∀ x ∈ c.exceptionTable.toList, False := by
      obtain ⟨meth9, c9, h1, h2, -, -, -, -, h7, -⟩ := Cond.code_spec B.named (atoms_spec (ws := ws) B.pre _ (by rw [hw]; exact List.mem_cons_self))
      cases Option.some.inj (h1.symm.trans B.method)
      cases Option.some.inj (h2.symm.trans (Stand.of_body B).code)
      intro x hx
      rw [Array.isEmpty_iff.mp h7] at hx
      cases hx
    obtain ⟨t, a1, o, b1, b2, b3⟩ := body p e s m args below meth c s₁ B hml ht hP s₁ hh0 (Stand.of_body B)
    exact ⟨t, o, a1, b1, b2, b3⟩
/-- the table of a body with handlers -/
theorem vx_table {p : Program} {x y : MethodName} {S : Spec} {cc bytes : ByteArray} {maxL maxL' : Nat} {ret ret' : Option FieldType} {e : Env} {s s₁ : State} {m : MethodId} {args : Array Value} {below : List Frame} {meth : Method} {c : Code} {hh : List (Nat × Nat × Nat × Nat)}
    (B : BodyLoose p l y S cc maxL ret e s m args below meth c s₁) (h : (Cond.codeWith y bytes maxL' ret' hh).before args s = true) : c.exceptionTable.toList = tableOf hh := by
  obtain ⟨m9, meth9, c9, hn9, h1, h2, -, -, h6, -⟩ := Cond.codeWith_spec h
  cases Option.some.inj (hn9.symm.trans B.named)
  cases Option.some.inj (h1.symm.trans B.method)
  cases Option.some.inj (h2.symm.trans (Stand.of_body B).code)
  rw [← h6, table_eq]
end Bodies
end VXA
/-! ===== END ===== -/
/-! ===== BEGIN a static call of a method with an exception table ===== -/
section VXS
variable {p : Program} {l : Launch} {e : Env} {R : Room} {s : State} {m : MethodId} {args : Array Value} {below : List Frame} {meth : Method} {c : Code} {T : State} {H : Heap} {locs : List Loc} {cells slots : Nat}
abbrev vx_CSW (R : Room) (s : State) (args : Array Value) (own : String) (index : Nat) (y : MethodName) (bytes : ByteArray) (maxL : Nat) (ret : Option FieldType) (hh : List (Nat × Nat × Nat × Nat)) (ws : List Cond) (rm : Room) (mc ms n : Nat) : Prop :=
  (rm.cells = mc ∧ rm.slots = ms ∧ rm.frames + 1 ≤ R.frames ∧ 8 + (maxL + 11) + rm.locals ≤ R.locals ∧ (∀ w ∈ ws, ∀ (a' : Array Value) (U : State), s.WarmedH U.vm → w.before a' U = true) ∧ Cond.codeWith y bytes maxL ret hh ∈ ws) ∧
  (Cond.codeWith y bytes maxL ret hh).before args s = true ∧ (Cond.initialized y.cls).before args s = true ∧ (y.cls ≠ "java/lang/invoke/MethodHandle" ∧ y.cls ≠ "java/lang/invoke/VarHandle") ∧
  (∀ sig, parseMethodDescriptor y.desc = some sig → n = sig.parameters.length) ∧ (Cond.methodLink own index y).before args s = true ∧ (Cond.static y).before args s = true
theorem vx_cwSW {own : String} {index maxL mc ms : Nat} {y : MethodName} {bytes : ByteArray} {ret : Option FieldType} {hh : List (Nat × Nat × Nat × Nat)} {Ts ws ws' : List Cond} {rm : Room} (n : Nat) (ht : ∀ w ∈ Ts, w.before args s = true) (hT : GoodIn Ts (va_wsS own index y ws)) (hw : ws = Cond.codeWith y bytes maxL ret hh :: ws') (hrc : rm.cells = mc) (hrs : rm.slots = ms)
    (hd : y.cls ≠ "java/lang/invoke/MethodHandle" ∧ y.cls ≠ "java/lang/invoke/VarHandle" ∧ (parseMethodDescriptor y.desc).map (fun d => d.parameters.length) = some n) (hR : rm.frames + 1 ≤ R.frames ∧ 8 + (maxL + 11) + rm.locals ≤ R.locals) :
    vx_CSW R s args own index y bytes maxL ret hh ws rm mc ms n := by
  have ok : ∀ w ∈ va_wsS own index y ws, w.before args s = true := fun w h => ht w (hT w h).1
  have hG : GoodIn Ts ws := fun w h => hT w (by unfold va_wsS; exact List.mem_append_right _ h)
  have hc : Cond.codeWith y bytes maxL ret hh ∈ ws := by rw [hw]; exact List.mem_cons_self
  refine ⟨⟨hrc, hrs, hR.1, hR.2, pay_in ht hG, hc⟩, ht _ (hG _ hc).1, ok _ (by simp [va_wsS]), ⟨hd.1, hd.2.1⟩, fun sig h => ?_, ok _ (by simp [va_wsS]), ok _ (by simp [va_wsS])⟩
  have h2 := hd.2.2
  rw [h] at h2
  exact (Option.some.inj h2).symm
theorem vx_callSW (X : Stand p l e R s m args below meth c T locs cells slots) (hexec : p.tables.exec = Jvm.exec) {own : String} {index : Nat} {y : MethodName} {bytes : ByteArray} {maxL : Nat} {ret : Option FieldType} {hh : List (Nat × Nat × Nat × Nat)}
    (hown : s.vm.findClass own = some m.cls) (hlink : (Cond.methodLink own index y).before args s = true) (hstat : (Cond.static y).before args s = true) (hinit : (Cond.initialized y.cls).before args s = true)
    (hcode : (Cond.codeWith y bytes maxL ret hh).before args s = true) (hy : y.cls ≠ "java/lang/invoke/MethodHandle" ∧ y.cls ≠ "java/lang/invoke/VarHandle")
    {W9 : Nat} {Pre : Pt → Array Value → Prop} {Post : Pt → Array Value → Option Value → Pt → Prop} (hK : Back l R p e below s args y 3 W9 Pre Post)
    {g : JFrame} (hg : g.method = m) (hsize : g.locals.size = c.maxLocals) {argsL rest : List Value} (hlen : ∀ sig, parseMethodDescriptor y.desc = some sig → argsL.length = sig.parameters.length)
    (hstack : g.stack = argsL.reverse ++ rest) (hW : 2 * g.monitorRoom + (rest.map fun v => v.category).sum ≤ W9) (hdg : decode c.code g.pc = .ok (.invokestatic index, 3))
    (hpre : ∀ vm₁, s.WarmedH vm₁ → Pre ⟨T.setVm vm₁, locs, cells, slots⟩ argsL.toArray) :
    ∃ (v : Option Value) (vm₁ : Vm) (B : Pt), s.WarmedH vm₁ ∧ Stand p l e R s m args below meth c B.U B.locs B.cells B.slots ∧ Post ⟨T.setVm vm₁, locs, cells, slots⟩ argsL.toArray v B ∧
      ∀ target, Steps p.tables e below (B.U.setTop { g with pc := g.pc + 3, stack := v.toList ++ rest }) target → Steps p.tables e below (T.setTop g) target := by
  obtain ⟨mk, methM, cM, hnamed, hmethM, -, -, -, -, -, -, hsigM⟩ := Cond.codeWith_spec hcode
  have hstatic : methM.isStatic = true := Cond.static_spec hnamed hmethM hstat
  obtain ⟨kP, hkP, -⟩ := className_of_methodNamed hnamed
  have hinitP : kP.init = .initialized := Cond.initialized_spec (findClass_of_methodNamed hnamed) hkP hinit
  obtain ⟨vm₁, X₁, hstep₁⟩ := X.invokestatic hexec hown hlink hnamed hmethM hstatic hkP hinitP hy (g := g) hg (argsL := argsL) (rest := rest) (hlen _ hsigM) hstack hdg
  obtain ⟨v, B, X', hpost, hsteps⟩ := hK m meth c ⟨T.setVm vm₁, locs, cells, slots⟩ { g with stack := rest } (.invokestatic index) mk argsL.toArray X₁ hg hsize hdg hW (X₁.named hnamed) (hpre vm₁ X₁.warmed)
  exact ⟨v, vm₁, B, X₁.warmed, X', hpost, fun target h => hstep₁ _ fun acts => by rw [doInvoke_state]; exact hsteps.trans h⟩
theorem vx_runSW {y : MethodName} {bytes cc : ByteArray} {maxL nL mc ms n index : Nat} {ret : Option FieldType} {hh : List (Nat × Nat × Nat × Nat)} {ws : List Cond} {rm : Room} {Pc : Array Value → State → Prop} {Qc : Array Value → State → Outcome → State → Prop} {free : Addr → Prop} {Ts : List Cond} {own : String} {As rest : List Value} {g : JFrame}
    (S : CallFix p m c cc nL s args Ts own) (hM : Met l y ws rm Pc Qc mc ms free) (cw : vx_CSW R s args own index y bytes maxL ret hh ws rm mc ms n) (hp : PreS s H Pc As)
    (hg : g.method = m) (hn : As.length = n) (hsize : g.locals.size = nL) (hstack : g.stack = As.reverse ++ rest) (hW : 2 * g.monitorRoom + (rest.map fun v => v.category).sum ≤ 8) (hdg : decode cc g.pc = .ok (.invokestatic index, 3)) (hf : cells + mc ≤ R.cells ∧ slots + ms ≤ R.slots) :
    va_Run p l e R s m args below meth c H locs cells slots mc ms g rest (Qc As.toArray) (free) := by
  obtain ⟨⟨hrc, hrs, hfr, hlo, hws, hcw⟩, hcode, hini, hy, hlen, hl, hstt⟩ := cw
  have hK : Back l R p e below s args y 3 8 (PreOf R mc ms Pc) (PostOf Qc mc ms free) := va_backW (hh := hh) (bytes := bytes) (maxL := maxL) (ret := ret) hM hp.1 hrc hrs hfr hlo hws hcw (fun a' U hW => word_at hW (Or.inl (by first | rfl | simp [Cond.onTables, Cond.keeps, Cond.steady])) hini)
  obtain ⟨hx, hb, hml, ho, -⟩ := S
  intro T hT X
  obtain ⟨v, vm₁, ⟨U', l2, c2, s2⟩, hW₁, X', ⟨g', mk, t, L, e1, e2, hq, h1, hL, h2, h3⟩, st⟩ := vx_callSW X hx (hh := hh) (bytes := bytes) (maxL := maxL) (ret := ret) ho hl hstt hini hcode hy hK hg (hsize.trans hml.symm) (argsL := As) (rest := rest) (fun sig h => hn.trans (hlen sig h)) hstack hW (by rw [hb]; exact hdg)
    (fun vm₁ hW₁ => ⟨hf.1, hf.2, hp.2 (T.setVm vm₁) hT hW₁⟩)
  dsimp only [Pt.U, Pt.locs, Pt.cells, Pt.slots] at X' e1 e2 h1 h2 h3 st
  subst h1; subst h2; subst h3
  exact ⟨v, (T.setVm vm₁).calling g' mk As.toArray, t, U', L, hT, X', hL, e1, e2, hq, st⟩
/-- not caught here, past rows that name other classes: it goes on to the caller -/
theorem vx_outP {p : Program} {l : Launch} {e : Env} {R : Room} {s : State} {m : MethodId} {args : Array Value} {below : List Frame} {meth : Method} {c : Code} {H : Heap} {locs : List Loc} {cells slots : Nat} {free : Addr → Prop} {ls : Array Slot} {rest : List Value} {Qc : Array Value → State → Outcome → State → Prop} {XC : String → State → State → Prop}
    {pc : Nat} {own E : String} {ce : Cell} {q : Addr} {mc ms : Nat} (hown : s.vm.findClass own = some m.cls) (hlocks : meth.locks = false)
    (hpass : ∀ z ∈ c.exceptionTable.toList, covers z pc = false ∨ (z.catchType ≠ 0 ∧ ∃ nm : String, (Cond.classLink own z.catchType nm).before args s = true ∧ va_Nc E nm s)) (hcell : H[q]? = some ce) (hv : ce.vm = .none) (hcl : s.vm.findClass E = some ce.cls)
    (hx : ∀ t : State, t.heap = H → s.vm.Alike t.vm → XC E s t) (hf : ∀ z ∈ locs, free z.base) (hc : cells ≤ mc) (hs : slots ≤ ms) :
    vx_W p l e R s m args below meth c H locs cells slots (vx_MQ below Qc XC args s mc ms free) (F0 m pc ls rest) q := by
  intro T hT X
  have hpl : e.platform.magicAccessors = ({} : Platform).magicAccessors := by rw [X.admits.platform]
  obtain ⟨vm', hW', X', st⟩ := X.outThrough hlocks q (g := F0 m pc ls rest) rfl rfl rfl (cell := ce) (by rw [hT]; exact hcell) (by rw [hv]; rfl)
    (by obtain ⟨k9, h9, -⟩ := Vm.findClass_spec hcl; exact ⟨k9, h9⟩) (fun z hz => by
      rcases hpass z hz with h | ⟨hz0, nm, hl1, hn1⟩
      · exact Or.inl h
      · obtain ⟨c6, hc6, hcl6⟩ := Cond.classLink_spec hown hl1 e.platform hpl
        obtain ⟨a8, b8, h1, h2, h3⟩ := hn1
        cases Option.some.inj (h1.symm.trans hcl)
        cases Option.some.inj (h2.symm.trans hc6)
        exact Or.inr ⟨hz0, _, hcl6, h3⟩)
  obtain ⟨g₀, hfr⟩ := X'.frames_eq
  have hcell9 : ((T.setVm vm').setFrames (.throwing q :: below)).heap[q]? = some ce := by
    show T.heap[q]? = some ce
    rw [hT]; exact hcell
  have hend : Ended ((T.setVm vm').setFrames (.throwing q :: below)) below (.threw q) := State.frames_setFrames _ (State.cur_lt_of_frames hfr)
  refine ⟨(T.setVm vm').setFrames (.throwing q :: below), ?_, .threw q, X'.here.running, hend, Or.inr ⟨q, rfl, E, ce, locs, hx _ hT (X'.ends _).1.alike, hcell9, hv, hcl, (X'.ends _).1, (X'.ends _).2.mono hc hs, hf⟩⟩
  rw [X.pushThrowing_eq]
  exact st
/-- a thing of a world lies in the heap -/
theorem vx_lt {D : va_G} {cl : List vw_C} {ws : va_W} {H1 : Heap} (h : va_P D cl ws H1) {k : Nat} {q : Nat × va_E} (hk : ws[k]? = some q) : q.1 < H1.size := (h k q hk).lt
end VXS
/-! ===== END ===== -/
/-! ===== BEGIN methods with a table of their own: called by a name, returning or throwing ===== -/
section VXH
/-! vx_backW, vx_callVX, vx_callSX, vx_callVW, vx_runVW, vx_runVX, vx_runSX, vx_ofWH follow the same proofs as their sisters above (Free/Laws.lean, Shelf42/LK1.lean); vx_outP calls Shelf42/NT130.lean (outThrough). -/
section
variable {l : Launch} {R : Room} {p : Program} {e : Env} {below : List Frame} {s : State} {sargs : Array Value} {y : MethodName} {len W9 : Nat}
theorem vx_backW {ws : List Cond} {rm : Room} {Pc : Array Value → State → Prop} {Qc : Array Value → State → Outcome → State → Prop} {XC : String → State → State → Prop} {mc ms : Nat} {free : Addr → Prop} {bytes : ByteArray} {maxL : Nat} {ret : Option FieldType} {hh : List (Nat × Nat × Nat × Nat)}
    (hM : vx_Met l y ws rm Pc Qc XC mc ms free) (hblind : FrameBlind Pc) (hrc : rm.cells = mc) (hrs : rm.slots = ms)
    (hframes : rm.frames + 1 ≤ R.frames) (hlocals : W9 + (maxL + 11) + rm.locals ≤ R.locals)
    (hws : ∀ w ∈ ws, ∀ a' U, s.WarmedH U.vm → w.before a' U = true) (hcode : Cond.codeWith y bytes maxL ret hh ∈ ws) (hinit : ∀ a' U, s.WarmedH U.vm → (Cond.initialized y.cls).before a' U = true) :
    vx_Back l R p e below s sargs y len W9 (PreOf R mc ms Pc) (PostOf Qc mc ms free) (vx_Post XC mc ms free) := by
  intro m meth c A g ig mk a X hg hsize hdg hW hn hp
  have h1 : (headSpec ws rm).pre.before a A.U = true := atoms_intro fun w hw => hws w hw _ _ X.warmed
  have h2 : (Cond.codeWith y bytes maxL ret hh).before a A.U = true := hws _ hcode _ _ X.warmed
  have h3 : (Cond.initialized y.cls).before a A.U = true := hinit _ _ X.warmed
  have h4 : A.cells + (headSpec ws rm).room.cells ≤ R.cells := by rw [show (headSpec ws rm).room.cells = mc from hrc]; exact hp.1
  have h5 : A.slots + (headSpec ws rm).room.slots ≤ R.slots := by rw [show (headSpec ws rm).room.slots = ms from hrs]; exact hp.2.1
  have hPc : Pc a (A.U.calling g mk a) := hblind _ _ _ _ hp.2.2
  obtain ⟨U, Ls, c0, s0⟩ := A
  dsimp only [Pt.U, Pt.locs, Pt.cells, Pt.slots] at h1 h2 h3 h4 h5 X hn hPc ⊢
  obtain ⟨m9, methY, cY, hn9, hmY, hcY, -, hlY, -⟩ := Cond.codeWith_spec h2
  cases Option.some.inj (hn9.symm.trans hn)
  obtain ⟨kY, hkY, -⟩ := className_of_methodNamed hn
  have hinitY : kY.init = .initialized := Cond.initialized_spec (findClass_of_methodNamed hn) hkY h3
  have h : At U g.method c below := by rw [hg]; exact X.here
  have hlocals9 : W9 + (maxL + 11) + (headSpec ws rm).room.locals ≤ R.locals := hlocals
  have happ : (headSpec ws rm).appliesLoose y e.platform (U.calling g mk a) = true :=
    Spec.appliesLoose_calling (g := g) h hdg hn hkY hinitY
      (X.room_calling (g := g) (R' := (headSpec ws rm).room) hsize hmY hcY hframes (by rw [hlY]; omega) h4 h5) h1
  obtain ⟨mid, hmid⟩ := h.above
  have hfr : (U.setTop g).frames = (.java g :: mid) ++ below := by rw [State.frames_setTop' g h.top, hmid]; rfl
  obtain ⟨o, s₂, hsteps, -, hend, hq⟩ := Steps.callFree hM p X.admits X.cas X.clock (acts := []) hfr happ hPc trivial
  have hq' : vx_Q Qc XC mc ms free a (U.calling g mk a) o s₂ := hq
  rw [State.frames_setTop' g h.top] at hend
  obtain ⟨g₀, hg0⟩ := Option.isSome_iff_exists.mp h.top
  obtain ⟨r, hr⟩ := State.topJava?_eq_some.mp hg0
  have hr' : (({ U with heap := s₂.heap, slotsUsed := s₂.slotsUsed } : State).setVm s₂.vm).frames = .java g₀ :: r := hr
  rcases hq' with ⟨hqc, L, hfe, hL⟩ | ⟨q, rfl, E, ce, L, hx, hce, hcv, hcl, hW₂, hsm, hL⟩
  · obtain ⟨⟨v, rfl⟩, hW₂, e2, q2, q3, q4, q5, q6⟩ := id hfe
    have e3 : s₂ = ({ (U.calling g mk a).setFrames s₂.frames with heap := s₂.heap, slotsUsed := s₂.slotsUsed } : State).setVm s₂.vm := by
      have : s₂ = ({ s₂ with vm := (U.calling g mk a).vm } : State).setVm s₂.vm := rfl
      rw [e2] at this
      exact this
    obtain ⟨c₂, i₂, len₂, hc₂, hd₂, hf₂⟩ := hend
    have hW' : U.WarmedH s₂.vm := hW₂
    have hcc : c₂ = c := by
      have h1 : s₂.code? g.method = U.code? g.method := by
        rw [State.code?_eq, State.code?_eq, hW'.alike.method?]
      exact Option.some.inj (hc₂.symm.trans (h1.trans h.code))
    subst hcc
    have hlen : len₂ = len := by rw [hdg] at hd₂; cases hd₂; rfl
    subst hlen
    have hs₂ : s₂ = (({ U with heap := s₂.heap, slotsUsed := s₂.slotsUsed } : State).setVm s₂.vm).setTop { g with pc := g.pc + len₂, stack := v.toList ++ g.stack } := by
      refine e3.trans ?_
      rw [hf₂, State.calling_eq h.top, State.setFrames_setFrames, State.setTop_of_frames _ hr', hr]
      rfl
    have hsame : U.sameButNew ({ U with heap := s₂.heap, slotsUsed := s₂.slotsUsed } : State) L mc ms := by
      refine ⟨?_, q2, q3, q4, q5, q6⟩
      obtain ⟨t, ht, -⟩ := State.frames_cons hr
      show ({ U with heap := s₂.heap, slotsUsed := s₂.slotsUsed } : State) = { U.setFrames U.frames with heap := s₂.heap, slotsUsed := s₂.slotsUsed }
      rw [State.setFrames_self ht]
    subst hg
    refine Or.inl ⟨v, ⟨(({ U with heap := s₂.heap, slotsUsed := s₂.slotsUsed } : State).setVm s₂.vm), Ls ++ L, c0 + mc, s0 + ms⟩,
      ⟨X.admits, X.cas, X.clock, X.frames, X.room, X.hears, X.method, X.code, (X.here.setHeapUsed s₂.heap s₂.slotsUsed).setVm hW'.alike, X.tail, State.WarmedH.trans X.warmed hW', X.limits, X.bytes, X.same.trans (hsame.setVm s.vm)⟩,
      ⟨g, mk, s₂, L, rfl, rfl, hqc, rfl, hL, rfl, rfl⟩, ?_⟩
    show Steps p.tables e below _ ((({ U with heap := s₂.heap, slotsUsed := s₂.slotsUsed } : State).setVm s₂.vm).setTop { g with pc := g.pc + len₂, stack := v.toList ++ g.stack })
    rw [← hs₂]
    exact hsteps
  · obtain ⟨e2, q2, q3, q4, q5, q6⟩ := id hsm
    have e3 : s₂ = ({ (U.calling g mk a).setFrames s₂.frames with heap := s₂.heap, slotsUsed := s₂.slotsUsed } : State).setVm s₂.vm := by
      have : s₂ = ({ s₂ with vm := (U.calling g mk a).vm } : State).setVm s₂.vm := rfl
      rw [e2] at this
      exact this
    have hf₂ : s₂.frames = .throwing q :: .java g :: U.frames.tail := hend
    have hW' : U.WarmedH s₂.vm := hW₂
    have hs₂ : s₂ = ((({ U with heap := s₂.heap, slotsUsed := s₂.slotsUsed } : State).setVm s₂.vm).setTop g).pushFrame (.throwing q) := by
      refine e3.trans ?_
      rw [hf₂, State.calling_eq h.top, State.setFrames_setFrames, State.pushFrame, State.frames_setTop _ hr', State.setTop_of_frames _ hr', State.setFrames_setFrames, hr]
      rfl
    have hsame : U.sameButNew ({ U with heap := s₂.heap, slotsUsed := s₂.slotsUsed } : State) L mc ms := by
      refine ⟨?_, q2, q3, q4, q5, q6⟩
      obtain ⟨t, ht, -⟩ := State.frames_cons hr
      show ({ U with heap := s₂.heap, slotsUsed := s₂.slotsUsed } : State) = { U.setFrames U.frames with heap := s₂.heap, slotsUsed := s₂.slotsUsed }
      rw [State.setFrames_self ht]
    subst hg
    refine Or.inr ⟨q, ⟨(({ U with heap := s₂.heap, slotsUsed := s₂.slotsUsed } : State).setVm s₂.vm), Ls ++ L, c0 + mc, s0 + ms⟩,
      ⟨X.admits, X.cas, X.clock, X.frames, X.room, X.hears, X.method, X.code, (X.here.setHeapUsed s₂.heap s₂.slotsUsed).setVm hW'.alike, X.tail, State.WarmedH.trans X.warmed hW', X.limits, X.bytes, X.same.trans (hsame.setVm s.vm)⟩,
      ⟨g, mk, s₂, L, E, ce, rfl, rfl, hx, hce, hcv, hcl, rfl, hL, rfl, rfl⟩, ?_⟩
    show Steps p.tables e below _ (((({ U with heap := s₂.heap, slotsUsed := s₂.slotsUsed } : State).setVm s₂.vm).setTop g).pushFrame (.throwing q))
    rw [← hs₂]
    exact hsteps
end
variable {p : Program} {l : Launch} {e : Env} {R : Room} {s : State} {m : MethodId} {args : Array Value} {below : List Frame} {meth : Method} {c : Code} {T : State} {H : Heap} {locs : List Loc} {cells slots : Nat}
theorem vx_callVX (X : Stand p l e R s m args below meth c T locs cells slots) (hexec : p.tables.exec = Jvm.exec) {own C : String} {index : Nat} {y : MethodName} {bytes : ByteArray} {maxL : Nat} {ret : Option FieldType} {hh : List (Nat × Nat × Nat × Nat)}
    (hown : s.vm.findClass own = some m.cls) (hlink : (Cond.methodLink own index y).before args s = true) (hinst : (Cond.instanceMethod y).before args s = true) (hsel : (Cond.selects C y y).before args s = true)
    (hcode : (Cond.codeWith y bytes maxL ret hh).before args s = true) (hy : y.cls ≠ "java/lang/invoke/MethodHandle" ∧ y.cls ≠ "java/lang/invoke/VarHandle")
    {W9 : Nat} {Pre : Pt → Array Value → Prop} {Post : Pt → Array Value → Option Value → Pt → Prop} {PostX : Pt → Array Value → Addr → Pt → Prop} (hK : vx_Back l R p e below s args y 3 W9 Pre Post PostX)
    {b : Addr} {cellB : Cell} (hcell : T.heap[b]? = some cellB) (hobj : cellB.vm.isStatics = false) (hcls : s.vm.findClass C = some cellB.cls)
    {g : JFrame} (hg : g.method = m) (hsize : g.locals.size = c.maxLocals) {argsL rest : List Value} (hlen : ∀ sig, parseMethodDescriptor y.desc = some sig → argsL.length = sig.parameters.length)
    (hstack : g.stack = argsL.reverse ++ .ref b :: rest) (hW : 2 * g.monitorRoom + (rest.map fun v => v.category).sum ≤ W9) (hdg : decode c.code g.pc = .ok (.invokevirtual index, 3))
    (hpre : ∀ vm₁, s.WarmedH vm₁ → Pre ⟨T.setVm vm₁, locs, cells, slots⟩ (Value.ref b :: argsL).toArray) :
    (∃ (v : Option Value) (vm₁ : Vm) (B : Pt), s.WarmedH vm₁ ∧ Stand p l e R s m args below meth c B.U B.locs B.cells B.slots ∧ Post ⟨T.setVm vm₁, locs, cells, slots⟩ (Value.ref b :: argsL).toArray v B ∧
      ∀ target, Steps p.tables e below (B.U.setTop { g with pc := g.pc + 3, stack := v.toList ++ rest }) target → Steps p.tables e below (T.setTop g) target) ∨
    (∃ (q : Addr) (vm₁ : Vm) (B : Pt), s.WarmedH vm₁ ∧ Stand p l e R s m args below meth c B.U B.locs B.cells B.slots ∧ PostX ⟨T.setVm vm₁, locs, cells, slots⟩ (Value.ref b :: argsL).toArray q B ∧
      Steps p.tables e below (T.setTop g) ((B.U.setTop { g with stack := rest }).pushFrame (.throwing q))) := by
  obtain ⟨mk, methM, hnamed, hmethM, hstM, habM⟩ := Cond.instanceMethod_spec hinst
  obtain ⟨m8, methM', cM, hn8, hmethM', -, -, -, -, -, -, hsigM⟩ := Cond.codeWith_spec hcode
  cases Option.some.inj (hn8.symm.trans hnamed)
  cases hmethM.symm.trans hmethM'
  obtain ⟨c2, r2, m2, q1, q2, q3, q4, kP, hkP, hkPi⟩ := Cond.selects_spec hsel
  cases hcls.symm.trans q1
  cases (State.methodFound?_of_named hnamed hy).symm.trans q2
  cases hnamed.symm.trans q3
  have hselP : selectMethod e.platform s.vm cellB.cls mk = .method mk := by rw [Launch.admits_selectMethod X.admits]; exact q4
  obtain ⟨vm₁, X₁, hstep₁⟩ := X.invokevirtual hexec hown hlink hnamed hmethM hstM hkP hkPi hy (a := b) (cell := cellB) hcell
    (fun z h => by rw [h] at hobj; cases hobj) hselP hmethM habM hkP hkPi (g := g) hg (argsL := argsL) (rest := rest) (hlen _ hsigM) hstack hdg
  rcases hK m meth c ⟨T.setVm vm₁, locs, cells, slots⟩ { g with stack := rest } (.invokevirtual index) mk (Value.ref b :: argsL).toArray X₁ hg hsize hdg hW (X₁.named hnamed) (hpre vm₁ X₁.warmed) with ⟨v, B, X', hpost, hsteps⟩ | ⟨q, B, X', hpost, hsteps⟩
  · exact Or.inl ⟨v, vm₁, B, X₁.warmed, X', hpost, fun target h => hstep₁ _ fun acts => by rw [doInvoke_state]; exact hsteps.trans h⟩
  · exact Or.inr ⟨q, vm₁, B, X₁.warmed, X', hpost, hstep₁ _ fun acts => by rw [doInvoke_state]; exact hsteps⟩
theorem vx_callSX (X : Stand p l e R s m args below meth c T locs cells slots) (hexec : p.tables.exec = Jvm.exec) {own : String} {index : Nat} {y : MethodName} {bytes : ByteArray} {maxL : Nat} {ret : Option FieldType} {hh : List (Nat × Nat × Nat × Nat)}
    (hown : s.vm.findClass own = some m.cls) (hlink : (Cond.methodLink own index y).before args s = true) (hstat : (Cond.static y).before args s = true) (hinit : (Cond.initialized y.cls).before args s = true)
    (hcode : (Cond.codeWith y bytes maxL ret hh).before args s = true) (hy : y.cls ≠ "java/lang/invoke/MethodHandle" ∧ y.cls ≠ "java/lang/invoke/VarHandle")
    {W9 : Nat} {Pre : Pt → Array Value → Prop} {Post : Pt → Array Value → Option Value → Pt → Prop} {PostX : Pt → Array Value → Addr → Pt → Prop} (hK : vx_Back l R p e below s args y 3 W9 Pre Post PostX)
    {g : JFrame} (hg : g.method = m) (hsize : g.locals.size = c.maxLocals) {argsL rest : List Value} (hlen : ∀ sig, parseMethodDescriptor y.desc = some sig → argsL.length = sig.parameters.length)
    (hstack : g.stack = argsL.reverse ++ rest) (hW : 2 * g.monitorRoom + (rest.map fun v => v.category).sum ≤ W9) (hdg : decode c.code g.pc = .ok (.invokestatic index, 3))
    (hpre : ∀ vm₁, s.WarmedH vm₁ → Pre ⟨T.setVm vm₁, locs, cells, slots⟩ argsL.toArray) :
    (∃ (v : Option Value) (vm₁ : Vm) (B : Pt), s.WarmedH vm₁ ∧ Stand p l e R s m args below meth c B.U B.locs B.cells B.slots ∧ Post ⟨T.setVm vm₁, locs, cells, slots⟩ argsL.toArray v B ∧
      ∀ target, Steps p.tables e below (B.U.setTop { g with pc := g.pc + 3, stack := v.toList ++ rest }) target → Steps p.tables e below (T.setTop g) target) ∨
    (∃ (q : Addr) (vm₁ : Vm) (B : Pt), s.WarmedH vm₁ ∧ Stand p l e R s m args below meth c B.U B.locs B.cells B.slots ∧ PostX ⟨T.setVm vm₁, locs, cells, slots⟩ argsL.toArray q B ∧
      Steps p.tables e below (T.setTop g) ((B.U.setTop { g with stack := rest }).pushFrame (.throwing q))) := by
  obtain ⟨mk, methM, cM, hnamed, hmethM, -, -, -, -, -, -, hsigM⟩ := Cond.codeWith_spec hcode
  have hstatic : methM.isStatic = true := Cond.static_spec hnamed hmethM hstat
  obtain ⟨kP, hkP, -⟩ := className_of_methodNamed hnamed
  have hinitP : kP.init = .initialized := Cond.initialized_spec (findClass_of_methodNamed hnamed) hkP hinit
  obtain ⟨vm₁, X₁, hstep₁⟩ := X.invokestatic hexec hown hlink hnamed hmethM hstatic hkP hinitP hy (g := g) hg (argsL := argsL) (rest := rest) (hlen _ hsigM) hstack hdg
  rcases hK m meth c ⟨T.setVm vm₁, locs, cells, slots⟩ { g with stack := rest } (.invokestatic index) mk argsL.toArray X₁ hg hsize hdg hW (X₁.named hnamed) (hpre vm₁ X₁.warmed) with ⟨v, B, X', hpost, hsteps⟩ | ⟨q, B, X', hpost, hsteps⟩
  · exact Or.inl ⟨v, vm₁, B, X₁.warmed, X', hpost, fun target h => hstep₁ _ fun acts => by rw [doInvoke_state]; exact hsteps.trans h⟩
  · exact Or.inr ⟨q, vm₁, B, X₁.warmed, X', hpost, hstep₁ _ fun acts => by rw [doInvoke_state]; exact hsteps⟩
theorem vx_callVW (X : Stand p l e R s m args below meth c T locs cells slots) (hexec : p.tables.exec = Jvm.exec) {own C : String} {index : Nat} {y : MethodName} {bytes : ByteArray} {maxL : Nat} {ret : Option FieldType} {hh : List (Nat × Nat × Nat × Nat)}
    (hown : s.vm.findClass own = some m.cls) (hlink : (Cond.methodLink own index y).before args s = true) (hinst : (Cond.instanceMethod y).before args s = true) (hsel : (Cond.selects C y y).before args s = true)
    (hcode : (Cond.codeWith y bytes maxL ret hh).before args s = true) (hy : y.cls ≠ "java/lang/invoke/MethodHandle" ∧ y.cls ≠ "java/lang/invoke/VarHandle")
    {W9 : Nat} {Pre : Pt → Array Value → Prop} {Post : Pt → Array Value → Option Value → Pt → Prop} (hK : Back l R p e below s args y 3 W9 Pre Post)
    {b : Addr} {cellB : Cell} (hcell : T.heap[b]? = some cellB) (hobj : cellB.vm.isStatics = false) (hcls : s.vm.findClass C = some cellB.cls)
    {g : JFrame} (hg : g.method = m) (hsize : g.locals.size = c.maxLocals) {argsL rest : List Value} (hlen : ∀ sig, parseMethodDescriptor y.desc = some sig → argsL.length = sig.parameters.length)
    (hstack : g.stack = argsL.reverse ++ .ref b :: rest) (hW : 2 * g.monitorRoom + (rest.map fun v => v.category).sum ≤ W9) (hdg : decode c.code g.pc = .ok (.invokevirtual index, 3))
    (hpre : ∀ vm₁, s.WarmedH vm₁ → Pre ⟨T.setVm vm₁, locs, cells, slots⟩ (Value.ref b :: argsL).toArray) :
    ∃ (v : Option Value) (vm₁ : Vm) (B : Pt), s.WarmedH vm₁ ∧ Stand p l e R s m args below meth c B.U B.locs B.cells B.slots ∧ Post ⟨T.setVm vm₁, locs, cells, slots⟩ (Value.ref b :: argsL).toArray v B ∧
      ∀ target, Steps p.tables e below (B.U.setTop { g with pc := g.pc + 3, stack := v.toList ++ rest }) target → Steps p.tables e below (T.setTop g) target := by
  obtain ⟨mk, methM, hnamed, hmethM, hstM, habM⟩ := Cond.instanceMethod_spec hinst
  obtain ⟨m8, methM', cM, hn8, hmethM', -, -, -, -, -, -, hsigM⟩ := Cond.codeWith_spec hcode
  cases Option.some.inj (hn8.symm.trans hnamed)
  cases hmethM.symm.trans hmethM'
  obtain ⟨c2, r2, m2, q1, q2, q3, q4, kP, hkP, hkPi⟩ := Cond.selects_spec hsel
  cases hcls.symm.trans q1
  cases (State.methodFound?_of_named hnamed hy).symm.trans q2
  cases hnamed.symm.trans q3
  have hselP : selectMethod e.platform s.vm cellB.cls mk = .method mk := by rw [Launch.admits_selectMethod X.admits]; exact q4
  obtain ⟨vm₁, X₁, hstep₁⟩ := X.invokevirtual hexec hown hlink hnamed hmethM hstM hkP hkPi hy (a := b) (cell := cellB) hcell
    (fun z h => by rw [h] at hobj; cases hobj) hselP hmethM habM hkP hkPi (g := g) hg (argsL := argsL) (rest := rest) (hlen _ hsigM) hstack hdg
  obtain ⟨v, B, X', hpost, hsteps⟩ := hK m meth c ⟨T.setVm vm₁, locs, cells, slots⟩ { g with stack := rest } (.invokevirtual index) mk (Value.ref b :: argsL).toArray X₁ hg hsize hdg hW (X₁.named hnamed) (hpre vm₁ X₁.warmed)
  exact ⟨v, vm₁, B, X₁.warmed, X', hpost, fun target h => hstep₁ _ fun acts => by rw [doInvoke_state]; exact hsteps.trans h⟩
abbrev vx_CVW (R : Room) (s : State) (args : Array Value) (own C : String) (index : Nat) (y : MethodName) (bytes : ByteArray) (maxL : Nat) (ret : Option FieldType) (hh : List (Nat × Nat × Nat × Nat)) (ws : List Cond) (rm : Room) (mc ms n : Nat) : Prop :=
  (rm.cells = mc ∧ rm.slots = ms ∧ rm.frames + 1 ≤ R.frames ∧ 8 + (maxL + 11) + rm.locals ≤ R.locals ∧ (∀ w ∈ ws, ∀ (a' : Array Value) (U : State), s.WarmedH U.vm → w.before a' U = true) ∧ Cond.codeWith y bytes maxL ret hh ∈ ws) ∧
  (Cond.codeWith y bytes maxL ret hh).before args s = true ∧ (Cond.initialized y.cls).before args s = true ∧ (y.cls ≠ "java/lang/invoke/MethodHandle" ∧ y.cls ≠ "java/lang/invoke/VarHandle") ∧
  (∀ sig, parseMethodDescriptor y.desc = some sig → n = sig.parameters.length) ∧ (Cond.methodLink own index y).before args s = true ∧ (Cond.instanceMethod y).before args s = true ∧ (Cond.selects C y y).before args s = true
theorem vx_cwVW {own C : String} {index maxL mc ms : Nat} {y : MethodName} {bytes : ByteArray} {ret : Option FieldType} {hh : List (Nat × Nat × Nat × Nat)} {Ts ws ws' : List Cond} {rm : Room} (n : Nat) (ht : ∀ w ∈ Ts, w.before args s = true) (hT : GoodIn Ts (wsV own index C y ws)) (hw : ws = Cond.codeWith y bytes maxL ret hh :: ws') (hrc : rm.cells = mc) (hrs : rm.slots = ms)
    (hd : y.cls = C ∧ y.cls ≠ "java/lang/invoke/MethodHandle" ∧ y.cls ≠ "java/lang/invoke/VarHandle" ∧ (parseMethodDescriptor y.desc).map (fun d => d.parameters.length) = some n) (hR : rm.frames + 1 ≤ R.frames ∧ 8 + (maxL + 11) + rm.locals ≤ R.locals) :
    vx_CVW R s args own C index y bytes maxL ret hh ws rm mc ms n := by
  obtain ⟨hC, hd⟩ := hd
  subst hC
  have ok : ∀ w ∈ wsV own index y.cls y ws, w.before args s = true := fun w h => ht w (hT w h).1
  have hG : GoodIn Ts ws := fun w h => hT w (by unfold wsV; exact List.mem_append_right _ h)
  have hc : Cond.codeWith y bytes maxL ret hh ∈ ws := by rw [hw]; exact List.mem_cons_self
  refine ⟨⟨hrc, hrs, hR.1, hR.2, pay_in ht hG, hc⟩, ht _ (hG _ hc).1, ok _ (by simp [wsV]), ⟨hd.1, hd.2.1⟩, fun sig h => ?_, ok _ (by simp [wsV]), ok _ (by simp [wsV]), ok _ (by simp [wsV])⟩
  have h2 := hd.2.2
  rw [h] at h2
  exact (Option.some.inj h2).symm
theorem vx_runVW {y : MethodName} {bytes cc : ByteArray} {maxL nL mc ms n index : Nat} {ret : Option FieldType} {hh : List (Nat × Nat × Nat × Nat)} {ws : List Cond} {rm : Room} {Pc : Array Value → State → Prop} {Qc : Array Value → State → Outcome → State → Prop} {free : Addr → Prop} {Ts : List Cond} {own C : String} {b : Addr} {As rest : List Value} {g : JFrame}
    (S : CallFix p m c cc nL s args Ts own) (hM : Met l y ws rm Pc Qc mc ms free) (cw : vx_CVW R s args own C index y bytes maxL ret hh ws rm mc ms n) (hp : PreV s H C b Pc As)
    (hg : g.method = m) (hn : As.length = n) (hsize : g.locals.size = nL) (hstack : g.stack = As.reverse ++ .ref b :: rest) (hW : 2 * g.monitorRoom + (rest.map fun v => v.category).sum ≤ 8) (hdg : decode cc g.pc = .ok (.invokevirtual index, 3)) (hf : cells + mc ≤ R.cells ∧ slots + ms ≤ R.slots) :
    va_Run p l e R s m args below meth c H locs cells slots mc ms g rest (Qc (Value.ref b :: As).toArray) free := by
  obtain ⟨⟨hrc, hrs, hfr, hlo, hws, hcw⟩, hcode, hini, hy, hlen, hl, hin, hse⟩ := cw
  have hK : Back l R p e below s args y 3 8 (PreOf R mc ms Pc) (PostOf Qc mc ms free) := va_backW (hh := hh) (bytes := bytes) (maxL := maxL) (ret := ret) hM hp.1 hrc hrs hfr hlo hws hcw (fun a' U hW => word_at hW (Or.inl (by first | rfl | simp [Cond.onTables, Cond.keeps, Cond.steady])) hini)
  obtain ⟨hx, hb, hml, ho, -⟩ := S
  obtain ⟨-, ⟨cellB, hcB, hoB, hclB⟩, hPc⟩ := hp
  intro T hT X
  obtain ⟨v, vm₁, ⟨U', l2, c2, s2⟩, hW₁, X', ⟨g', mk, t, L, e1, e2, hq, h1, hL, h2, h3⟩, st⟩ := vx_callVW X hx (C := C) (hh := hh) (bytes := bytes) (maxL := maxL) (ret := ret) ho hl hin hse hcode hy hK (by rw [hT]; exact hcB) hoB hclB hg (hsize.trans hml.symm) (argsL := As) (rest := rest) (fun sig h => hn.trans (hlen sig h)) hstack hW (by rw [hb]; exact hdg)
    (fun vm₁ hW₁ => ⟨hf.1, hf.2, hPc (T.setVm vm₁) hT hW₁⟩)
  dsimp only [Pt.U, Pt.locs, Pt.cells, Pt.slots] at X' e1 e2 h1 h2 h3 st
  subst h1; subst h2; subst h3
  exact ⟨v, (T.setVm vm₁).calling g' mk (Value.ref b :: As).toArray, t, U', L, hT, X', hL, e1, e2, hq, st⟩
section
variable {y : MethodName} {bytes cc : ByteArray} {maxL nL mc ms n index : Nat} {ret : Option FieldType} {ws : List Cond} {rm : Room} {Pc : Array Value → State → Prop} {Qc : Array Value → State → Outcome → State → Prop} {XC : String → State → State → Prop} {free : Addr → Prop} {Ts : List Cond} {own C : String} {b : Addr} {As rest : List Value} {g : JFrame}
theorem vx_runVX {hh : List (Nat × Nat × Nat × Nat)} (S : CallFix p m c cc nL s args Ts own) (hM : vx_Met l y ws rm Pc Qc XC mc ms free) (cw : vx_CVW R s args own C index y bytes maxL ret hh ws rm mc ms n) (hp : PreV s H C b Pc As)
    (hg : g.method = m) (hn : As.length = n) (hsize : g.locals.size = nL) (hstack : g.stack = As.reverse ++ .ref b :: rest) (hW : 2 * g.monitorRoom + (rest.map fun v => v.category).sum ≤ 8) (hdg : decode cc g.pc = .ok (.invokevirtual index, 3)) (hf : cells + mc ≤ R.cells ∧ slots + ms ≤ R.slots) :
    vx_Run p l e R s m args below meth c H locs cells slots mc ms g rest (Qc (Value.ref b :: As).toArray) XC free := by
  obtain ⟨⟨hrc, hrs, hfr, hlo, hws, hcw⟩, hcode, hini, hy, hlen, hl, hin, hse⟩ := cw
  have hK : vx_Back l R p e below s args y 3 8 (PreOf R mc ms Pc) (PostOf Qc mc ms free) (vx_Post XC mc ms free) := vx_backW (hh := hh) (bytes := bytes) (maxL := maxL) (ret := ret) hM hp.1 hrc hrs hfr hlo hws hcw (fun a' U hW => word_at hW (Or.inl (by first | rfl | simp [Cond.onTables, Cond.keeps, Cond.steady])) hini)
  obtain ⟨hx, hb, hml, ho, -⟩ := S
  obtain ⟨-, ⟨cellB, hcB, hoB, hclB⟩, hPc⟩ := hp
  intro T hT X
  rcases vx_callVX X hx (C := C) (hh := hh) (bytes := bytes) (maxL := maxL) (ret := ret) ho hl hin hse hcode hy hK (by rw [hT]; exact hcB) hoB hclB hg (hsize.trans hml.symm) (argsL := As) (rest := rest) (fun sig h => hn.trans (hlen sig h)) hstack hW (by rw [hb]; exact hdg)
    (fun vm₁ hW₁ => ⟨hf.1, hf.2, hPc (T.setVm vm₁) hT hW₁⟩) with ⟨v, vm₁, ⟨U', l2, c2, s2⟩, hW₁, X', ⟨g', mk, t, L, e1, e2, hq, h1, hL, h2, h3⟩, st⟩ | ⟨q, vm₁, ⟨U', l2, c2, s2⟩, hW₁, X', ⟨g', mk, t, L, E, ce, e1, e2, hq, hce, hcv, hcl, h1, hL, h2, h3⟩, st⟩
  · dsimp only [Pt.U, Pt.locs, Pt.cells, Pt.slots] at X' e1 e2 h1 h2 h3 st
    subst h1; subst h2; subst h3
    exact Or.inl ⟨v, (T.setVm vm₁).calling g' mk (Value.ref b :: As).toArray, t, U', L, hT, X', hL, e1, e2, hq, st⟩
  · dsimp only [Pt.U, Pt.locs, Pt.cells, Pt.slots] at X' e1 e2 h1 h2 h3 st hcl
    subst h1; subst h2; subst h3
    exact Or.inr ⟨q, (T.setVm vm₁).calling g' mk (Value.ref b :: As).toArray, t, U', L, E, ce, hT, X', hL, e1, e2, hq, hce, hcv, vx_cls hW₁ hcl, st⟩
theorem vx_runSX {hh : List (Nat × Nat × Nat × Nat)} (S : CallFix p m c cc nL s args Ts own) (hM : vx_Met l y ws rm Pc Qc XC mc ms free) (cw : vx_CSW R s args own index y bytes maxL ret hh ws rm mc ms n) (hp : PreS s H Pc As)
    (hg : g.method = m) (hn : As.length = n) (hsize : g.locals.size = nL) (hstack : g.stack = As.reverse ++ rest) (hW : 2 * g.monitorRoom + (rest.map fun v => v.category).sum ≤ 8) (hdg : decode cc g.pc = .ok (.invokestatic index, 3)) (hf : cells + mc ≤ R.cells ∧ slots + ms ≤ R.slots) :
    vx_Run p l e R s m args below meth c H locs cells slots mc ms g rest (Qc As.toArray) XC free := by
  obtain ⟨⟨hrc, hrs, hfr, hlo, hws, hcw⟩, hcode, hini, hy, hlen, hl, hstt⟩ := cw
  have hK : vx_Back l R p e below s args y 3 8 (PreOf R mc ms Pc) (PostOf Qc mc ms free) (vx_Post XC mc ms free) := vx_backW (hh := hh) (bytes := bytes) (maxL := maxL) (ret := ret) hM hp.1 hrc hrs hfr hlo hws hcw (fun a' U hW => word_at hW (Or.inl (by first | rfl | simp [Cond.onTables, Cond.keeps, Cond.steady])) hini)
  obtain ⟨hx, hb, hml, ho, -⟩ := S
  intro T hT X
  rcases vx_callSX X hx (hh := hh) (bytes := bytes) (maxL := maxL) (ret := ret) ho hl hstt hini hcode hy hK hg (hsize.trans hml.symm) (argsL := As) (rest := rest) (fun sig h => hn.trans (hlen sig h)) hstack hW (by rw [hb]; exact hdg)
    (fun vm₁ hW₁ => ⟨hf.1, hf.2, hp.2 (T.setVm vm₁) hT hW₁⟩) with ⟨v, vm₁, ⟨U', l2, c2, s2⟩, hW₁, X', ⟨g', mk, t, L, e1, e2, hq, h1, hL, h2, h3⟩, st⟩ | ⟨q, vm₁, ⟨U', l2, c2, s2⟩, hW₁, X', ⟨g', mk, t, L, E, ce, e1, e2, hq, hce, hcv, hcl, h1, hL, h2, h3⟩, st⟩
  · dsimp only [Pt.U, Pt.locs, Pt.cells, Pt.slots] at X' e1 e2 h1 h2 h3 st
    subst h1; subst h2; subst h3
    exact Or.inl ⟨v, (T.setVm vm₁).calling g' mk As.toArray, t, U', L, hT, X', hL, e1, e2, hq, st⟩
  · dsimp only [Pt.U, Pt.locs, Pt.cells, Pt.slots] at X' e1 e2 h1 h2 h3 st hcl
    subst h1; subst h2; subst h3
    exact Or.inr ⟨q, (T.setVm vm₁).calling g' mk As.toArray, t, U', L, E, ce, hT, X', hL, e1, e2, hq, hce, hcv, vx_cls hW₁ hcl, st⟩
end
end VXH
theorem vx_ofWH {l : Launch} {y : MethodName} {ws ws' : List Cond} {rm : Room} {Pc : Array Value → State → Prop} {Qc : Array Value → State → Outcome → State → Prop} {XC : String → State → State → Prop} {mc ms : Nat} {free : Addr → Prop} {cc : ByteArray} {maxL : Nat} {ret : Option FieldType} {hh : List (Nat × Nat × Nat × Nat)}
    (hy : plainName y.cls = true) (hw : ws = Cond.codeWith y cc maxL ret hh :: ws')
    (body : ∀ p e s m args below meth c s₁, BodyLoose p l y (headSpec ws rm) cc maxL ret e s m args below meth c s₁ → c.maxLocals = maxL → Pc args s →
      W p l e (headSpec ws rm).room s m args below meth c s.heap [] 0 0 (vx_MQ below Qc XC args s mc ms free) (entryFrame m args maxL)) : vx_Met l y ws rm Pc Qc XC mc ms free := by
  refine MetFree.of_bodyS (code := cc) (maxLocals := maxL) (ret := ret) hy ?_ ?_
  · intro args s m h hn
    obtain ⟨m9, meth, c, hn9, h1, h2, h3, h4, -, h5, h6, -⟩ := Cond.codeWith_spec (atoms_spec (ws := ws) h _ (by rw [hw]; exact List.mem_cons_self))
    cases hn.symm.trans hn9
    exact ⟨meth, c, h1, h2, h3, h4, h5, h6⟩
  · intro p e s m args below meth c s₁ B hml hP _
    have hh0 : s₁.heap = s.heap := by rw [B.state]; rfl
    obtain ⟨t, a1, o, b1, b2, b3⟩ := body p e s m args below meth c s₁ B hml hP s₁ hh0 (Stand.of_body B)
    exact ⟨t, o, a1, b1, b2, b3⟩
/-! ===== END ===== -/
end
section
-- ===== PART A: goes FIRST, ahead of the names: the tables' words, and 'selects' of the private methods out of them =====
/-- a private method of a class that the tables say can be made, by its rows of tables_1 -/
def lw_okq (q : MethodName × Nat) : Prop := (q.1.cls ≠ "java/lang/invoke/MethodHandle" ∧ q.1.cls ≠ "java/lang/invoke/VarHandle") ∧ Cond.instantiable q.1.cls q.2 ∈ tables_1 ∧ Cond.privateMethod q.1 ∈ tables_1 ∧ Cond.instanceMethod q.1 ∈ tables_1
theorem lw_p0 : lw_okq (⟨"DustYard", "cutsNeeded", "()I"⟩, 14) := ⟨⟨by decide +kernel, by decide +kernel⟩, List.mem_of_getElem? (i := 29) (by decide +kernel), List.mem_of_getElem? (i := 428) (by decide +kernel), List.mem_of_getElem? (i := 429) (by decide +kernel)⟩
theorem lw_p1 : lw_okq (⟨"DustYard", "lead", "(II)I"⟩, 14) := ⟨⟨by decide +kernel, by decide +kernel⟩, List.mem_of_getElem? (i := 29) (by decide +kernel), List.mem_of_getElem? (i := 490) (by decide +kernel), List.mem_of_getElem? (i := 491) (by decide +kernel)⟩
theorem lw_p2 : lw_okq (⟨"DustYard$Reader", "readsLawLine", "()Z"⟩, 3) := ⟨⟨by decide +kernel, by decide +kernel⟩, List.mem_of_getElem? (i := 240) (by decide +kernel), List.mem_of_getElem? (i := 592) (by decide +kernel), List.mem_of_getElem? (i := 593) (by decide +kernel)⟩
theorem lw_p3 : lw_okq (⟨"DustYard$Reader", "readsAny", "(I)Z"⟩, 3) := ⟨⟨by decide +kernel, by decide +kernel⟩, List.mem_of_getElem? (i := 240) (by decide +kernel), List.mem_of_getElem? (i := 656) (by decide +kernel), List.mem_of_getElem? (i := 657) (by decide +kernel)⟩
theorem lw_p4 : lw_okq (⟨"DustYard$Reader", "readsAll", "(I)Z"⟩, 3) := ⟨⟨by decide +kernel, by decide +kernel⟩, List.mem_of_getElem? (i := 240) (by decide +kernel), List.mem_of_getElem? (i := 660) (by decide +kernel), List.mem_of_getElem? (i := 661) (by decide +kernel)⟩
theorem lw_p5 : lw_okq (⟨"DustYard$Reader", "readsAtom", "(I)Z"⟩, 3) := ⟨⟨by decide +kernel, by decide +kernel⟩, List.mem_of_getElem? (i := 240) (by decide +kernel), List.mem_of_getElem? (i := 664) (by decide +kernel), List.mem_of_getElem? (i := 665) (by decide +kernel)⟩
theorem lw_p6 : lw_okq (⟨"DustYard$Reader", "readsSum", "()Z"⟩, 3) := ⟨⟨by decide +kernel, by decide +kernel⟩, List.mem_of_getElem? (i := 240) (by decide +kernel), List.mem_of_getElem? (i := 685) (by decide +kernel), List.mem_of_getElem? (i := 686) (by decide +kernel)⟩
theorem lw_p7 : lw_okq (⟨"DustYard$Reader", "readsPart", "()Z"⟩, 3) := ⟨⟨by decide +kernel, by decide +kernel⟩, List.mem_of_getElem? (i := 240) (by decide +kernel), List.mem_of_getElem? (i := 689) (by decide +kernel), List.mem_of_getElem? (i := 690) (by decide +kernel)⟩
theorem lw_p8 : lw_okq (⟨"DustYard$Reader", "readsYardLine", "()Z"⟩, 3) := ⟨⟨by decide +kernel, by decide +kernel⟩, List.mem_of_getElem? (i := 240) (by decide +kernel), List.mem_of_getElem? (i := 706) (by decide +kernel), List.mem_of_getElem? (i := 707) (by decide +kernel)⟩
theorem lw_p9 : lw_okq (⟨"DustYard$Reader", "readsStreet", "()Z"⟩, 3) := ⟨⟨by decide +kernel, by decide +kernel⟩, List.mem_of_getElem? (i := 240) (by decide +kernel), List.mem_of_getElem? (i := 710) (by decide +kernel), List.mem_of_getElem? (i := 711) (by decide +kernel)⟩
theorem lw_p10 : lw_okq (⟨"DustYard$Reader", "readsCart", "()Z"⟩, 3) := ⟨⟨by decide +kernel, by decide +kernel⟩, List.mem_of_getElem? (i := 240) (by decide +kernel), List.mem_of_getElem? (i := 729) (by decide +kernel), List.mem_of_getElem? (i := 730) (by decide +kernel)⟩
theorem lw_p11 : lw_okq (⟨"DustYard$Reader", "readsSieve", "()Z"⟩, 3) := ⟨⟨by decide +kernel, by decide +kernel⟩, List.mem_of_getElem? (i := 240) (by decide +kernel), List.mem_of_getElem? (i := 740) (by decide +kernel), List.mem_of_getElem? (i := 741) (by decide +kernel)⟩
theorem lw_p12 : lw_okq (⟨"DustYard$Reader", "readsContract", "()Z"⟩, 3) := ⟨⟨by decide +kernel, by decide +kernel⟩, List.mem_of_getElem? (i := 240) (by decide +kernel), List.mem_of_getElem? (i := 749) (by decide +kernel), List.mem_of_getElem? (i := 750) (by decide +kernel)⟩
theorem lw_p13 : lw_okq (⟨"DustYard$Reader", "readsHeap", "()Z"⟩, 3) := ⟨⟨by decide +kernel, by decide +kernel⟩, List.mem_of_getElem? (i := 240) (by decide +kernel), List.mem_of_getElem? (i := 761) (by decide +kernel), List.mem_of_getElem? (i := 762) (by decide +kernel)⟩
theorem lw_p14 : lw_okq (⟨"DustYard$Reader", "readsRest", "()Z"⟩, 3) := ⟨⟨by decide +kernel, by decide +kernel⟩, List.mem_of_getElem? (i := 240) (by decide +kernel), List.mem_of_getElem? (i := 765) (by decide +kernel), List.mem_of_getElem? (i := 766) (by decide +kernel)⟩
theorem lw_p15 : lw_okq (⟨"java/lang/Throwable", "fillInStackTrace", "(I)Ljava/lang/Throwable;"⟩, 6) := ⟨⟨by decide +kernel, by decide +kernel⟩, List.mem_of_getElem? (i := 819) (by decide +kernel), List.mem_of_getElem? (i := 817) (by decide +kernel), List.mem_of_getElem? (i := 818) (by decide +kernel)⟩
def lw_privs_1 : List (MethodName × Nat) := [(⟨"DustYard", "cutsNeeded", "()I"⟩, 14), (⟨"DustYard", "lead", "(II)I"⟩, 14), (⟨"DustYard$Reader", "readsLawLine", "()Z"⟩, 3), (⟨"DustYard$Reader", "readsAny", "(I)Z"⟩, 3), (⟨"DustYard$Reader", "readsAll", "(I)Z"⟩, 3), (⟨"DustYard$Reader", "readsAtom", "(I)Z"⟩, 3), (⟨"DustYard$Reader", "readsSum", "()Z"⟩, 3), (⟨"DustYard$Reader", "readsPart", "()Z"⟩, 3), (⟨"DustYard$Reader", "readsYardLine", "()Z"⟩, 3), (⟨"DustYard$Reader", "readsStreet", "()Z"⟩, 3), (⟨"DustYard$Reader", "readsCart", "()Z"⟩, 3), (⟨"DustYard$Reader", "readsSieve", "()Z"⟩, 3), (⟨"DustYard$Reader", "readsContract", "()Z"⟩, 3), (⟨"DustYard$Reader", "readsHeap", "()Z"⟩, 3), (⟨"DustYard$Reader", "readsRest", "()Z"⟩, 3), (⟨"java/lang/Throwable", "fillInStackTrace", "(I)Ljava/lang/Throwable;"⟩, 6)]
theorem lw_r1 : ∀ q ∈ lw_privs_1, lw_okq q := List.forall_mem_cons.mpr ⟨lw_p0, List.forall_mem_cons.mpr ⟨lw_p1, List.forall_mem_cons.mpr ⟨lw_p2, List.forall_mem_cons.mpr ⟨lw_p3, List.forall_mem_cons.mpr ⟨lw_p4, List.forall_mem_cons.mpr ⟨lw_p5, List.forall_mem_cons.mpr ⟨lw_p6, List.forall_mem_cons.mpr ⟨lw_p7, List.forall_mem_cons.mpr ⟨lw_p8, List.forall_mem_cons.mpr ⟨lw_p9, List.forall_mem_cons.mpr ⟨lw_p10, List.forall_mem_cons.mpr ⟨lw_p11, List.forall_mem_cons.mpr ⟨lw_p12, List.forall_mem_cons.mpr ⟨lw_p13, List.forall_mem_cons.mpr ⟨lw_p14, List.forall_mem_cons.mpr ⟨lw_p15, fun _ h => absurd h List.not_mem_nil⟩⟩⟩⟩⟩⟩⟩⟩⟩⟩⟩⟩⟩⟩⟩⟩
theorem lw_p16 : lw_okq (⟨"DustYard", "needStreet", "(I)V"⟩, 14) := ⟨⟨by decide +kernel, by decide +kernel⟩, List.mem_of_getElem? (i := 29) (by decide +kernel), List.mem_of_getElem? (i := 886) (by decide +kernel), List.mem_of_getElem? (i := 887) (by decide +kernel)⟩
theorem lw_p17 : lw_okq (⟨"DustYard$Law", "holds", "(ILDustYard$State;I)Z"⟩, 8) := ⟨⟨by decide +kernel, by decide +kernel⟩, List.mem_of_getElem? (i := 187) (by decide +kernel), List.mem_of_getElem? (i := 926) (by decide +kernel), List.mem_of_getElem? (i := 927) (by decide +kernel)⟩
theorem lw_p18 : lw_okq (⟨"DustYard", "partOf", "(I)I"⟩, 14) := ⟨⟨by decide +kernel, by decide +kernel⟩, List.mem_of_getElem? (i := 29) (by decide +kernel), List.mem_of_getElem? (i := 954) (by decide +kernel), List.mem_of_getElem? (i := 955) (by decide +kernel)⟩
theorem lw_p19 : lw_okq (⟨"DustYard", "needCart", "(I)V"⟩, 14) := ⟨⟨by decide +kernel, by decide +kernel⟩, List.mem_of_getElem? (i := 29) (by decide +kernel), List.mem_of_getElem? (i := 993) (by decide +kernel), List.mem_of_getElem? (i := 994) (by decide +kernel)⟩
theorem lw_p20 : lw_okq (⟨"DustYard", "reachedBy", "(I)I"⟩, 14) := ⟨⟨by decide +kernel, by decide +kernel⟩, List.mem_of_getElem? (i := 29) (by decide +kernel), List.mem_of_getElem? (i := 1006) (by decide +kernel), List.mem_of_getElem? (i := 1007) (by decide +kernel)⟩
theorem lw_p21 : lw_okq (⟨"DustYard$Rounds", "measure", "(LDustYard$State;)V"⟩, 4) := ⟨⟨by decide +kernel, by decide +kernel⟩, List.mem_of_getElem? (i := 256) (by decide +kernel), List.mem_of_getElem? (i := 1020) (by decide +kernel), List.mem_of_getElem? (i := 1021) (by decide +kernel)⟩
theorem lw_p22 : lw_okq (⟨"DustYard$Rounds", "leastUpTo", "(LDustYard$State;II)I"⟩, 4) := ⟨⟨by decide +kernel, by decide +kernel⟩, List.mem_of_getElem? (i := 256) (by decide +kernel), List.mem_of_getElem? (i := 1025) (by decide +kernel), List.mem_of_getElem? (i := 1026) (by decide +kernel)⟩
theorem lw_p23 : lw_okq (⟨"DustYard", "needContract", "(I)V"⟩, 14) := ⟨⟨by decide +kernel, by decide +kernel⟩, List.mem_of_getElem? (i := 29) (by decide +kernel), List.mem_of_getElem? (i := 1057) (by decide +kernel), List.mem_of_getElem? (i := 1058) (by decide +kernel)⟩
theorem lw_p24 : lw_okq (⟨"DustYard", "streetsTold", "()I"⟩, 14) := ⟨⟨by decide +kernel, by decide +kernel⟩, List.mem_of_getElem? (i := 29) (by decide +kernel), List.mem_of_getElem? (i := 1255) (by decide +kernel), List.mem_of_getElem? (i := 1256) (by decide +kernel)⟩
theorem lw_p25 : lw_okq (⟨"DustYard", "needRows", "(I)V"⟩, 14) := ⟨⟨by decide +kernel, by decide +kernel⟩, List.mem_of_getElem? (i := 29) (by decide +kernel), List.mem_of_getElem? (i := 1292) (by decide +kernel), List.mem_of_getElem? (i := 1293) (by decide +kernel)⟩
theorem lw_p26 : lw_okq (⟨"DustYard$Guesses", "wrongRows", "(LDustYard$State;I)I"⟩, 4) := ⟨⟨by decide +kernel, by decide +kernel⟩, List.mem_of_getElem? (i := 301) (by decide +kernel), List.mem_of_getElem? (i := 1305) (by decide +kernel), List.mem_of_getElem? (i := 1306) (by decide +kernel)⟩
theorem lw_p27 : lw_okq (⟨"DustYard$Guesses", "clearParts", "()V"⟩, 4) := ⟨⟨by decide +kernel, by decide +kernel⟩, List.mem_of_getElem? (i := 301) (by decide +kernel), List.mem_of_getElem? (i := 1334) (by decide +kernel), List.mem_of_getElem? (i := 1335) (by decide +kernel)⟩
theorem lw_p28 : lw_okq (⟨"DustYard$Guesses", "greatestPart", "()I"⟩, 4) := ⟨⟨by decide +kernel, by decide +kernel⟩, List.mem_of_getElem? (i := 301) (by decide +kernel), List.mem_of_getElem? (i := 1338) (by decide +kernel), List.mem_of_getElem? (i := 1339) (by decide +kernel)⟩
theorem lw_p29 : lw_okq (⟨"DustYard$Guesses", "isPairFit", "(II)Z"⟩, 4) := ⟨⟨by decide +kernel, by decide +kernel⟩, List.mem_of_getElem? (i := 301) (by decide +kernel), List.mem_of_getElem? (i := 1354) (by decide +kernel), List.mem_of_getElem? (i := 1355) (by decide +kernel)⟩
theorem lw_p30 : lw_okq (⟨"DustYard$Guesses", "partPairs", "(I)V"⟩, 4) := ⟨⟨by decide +kernel, by decide +kernel⟩, List.mem_of_getElem? (i := 301) (by decide +kernel), List.mem_of_getElem? (i := 1378) (by decide +kernel), List.mem_of_getElem? (i := 1379) (by decide +kernel)⟩
theorem lw_p31 : lw_okq (⟨"DustYard$Deals", "putFrom", "(LDustYard$State;II)V"⟩, 5) := ⟨⟨by decide +kernel, by decide +kernel⟩, List.mem_of_getElem? (i := 275) (by decide +kernel), List.mem_of_getElem? (i := 1393) (by decide +kernel), List.mem_of_getElem? (i := 1394) (by decide +kernel)⟩
def lw_privs_2 : List (MethodName × Nat) := [(⟨"DustYard", "needStreet", "(I)V"⟩, 14), (⟨"DustYard$Law", "holds", "(ILDustYard$State;I)Z"⟩, 8), (⟨"DustYard", "partOf", "(I)I"⟩, 14), (⟨"DustYard", "needCart", "(I)V"⟩, 14), (⟨"DustYard", "reachedBy", "(I)I"⟩, 14), (⟨"DustYard$Rounds", "measure", "(LDustYard$State;)V"⟩, 4), (⟨"DustYard$Rounds", "leastUpTo", "(LDustYard$State;II)I"⟩, 4), (⟨"DustYard", "needContract", "(I)V"⟩, 14), (⟨"DustYard", "streetsTold", "()I"⟩, 14), (⟨"DustYard", "needRows", "(I)V"⟩, 14), (⟨"DustYard$Guesses", "wrongRows", "(LDustYard$State;I)I"⟩, 4), (⟨"DustYard$Guesses", "clearParts", "()V"⟩, 4), (⟨"DustYard$Guesses", "greatestPart", "()I"⟩, 4), (⟨"DustYard$Guesses", "isPairFit", "(II)Z"⟩, 4), (⟨"DustYard$Guesses", "partPairs", "(I)V"⟩, 4), (⟨"DustYard$Deals", "putFrom", "(LDustYard$State;II)V"⟩, 5)]
theorem lw_r2 : ∀ q ∈ lw_privs_2, lw_okq q := List.forall_mem_cons.mpr ⟨lw_p16, List.forall_mem_cons.mpr ⟨lw_p17, List.forall_mem_cons.mpr ⟨lw_p18, List.forall_mem_cons.mpr ⟨lw_p19, List.forall_mem_cons.mpr ⟨lw_p20, List.forall_mem_cons.mpr ⟨lw_p21, List.forall_mem_cons.mpr ⟨lw_p22, List.forall_mem_cons.mpr ⟨lw_p23, List.forall_mem_cons.mpr ⟨lw_p24, List.forall_mem_cons.mpr ⟨lw_p25, List.forall_mem_cons.mpr ⟨lw_p26, List.forall_mem_cons.mpr ⟨lw_p27, List.forall_mem_cons.mpr ⟨lw_p28, List.forall_mem_cons.mpr ⟨lw_p29, List.forall_mem_cons.mpr ⟨lw_p30, List.forall_mem_cons.mpr ⟨lw_p31, fun _ h => absurd h List.not_mem_nil⟩⟩⟩⟩⟩⟩⟩⟩⟩⟩⟩⟩⟩⟩⟩⟩
theorem lw_p32 : lw_okq (⟨"DustYard", "nextForShovel", "([I)I"⟩, 14) := ⟨⟨by decide +kernel, by decide +kernel⟩, List.mem_of_getElem? (i := 29) (by decide +kernel), List.mem_of_getElem? (i := 1410) (by decide +kernel), List.mem_of_getElem? (i := 1411) (by decide +kernel)⟩
theorem lw_p33 : lw_okq (⟨"DustYard", "waysOfFire", "(II)J"⟩, 14) := ⟨⟨by decide +kernel, by decide +kernel⟩, List.mem_of_getElem? (i := 29) (by decide +kernel), List.mem_of_getElem? (i := 1434) (by decide +kernel), List.mem_of_getElem? (i := 1435) (by decide +kernel)⟩
theorem lw_p34 : lw_okq (⟨"DustYard", "fullest", "()I"⟩, 14) := ⟨⟨by decide +kernel, by decide +kernel⟩, List.mem_of_getElem? (i := 29) (by decide +kernel), List.mem_of_getElem? (i := 1446) (by decide +kernel), List.mem_of_getElem? (i := 1447) (by decide +kernel)⟩
theorem lw_p35 : lw_okq (⟨"DustYard", "farthest", "()I"⟩, 14) := ⟨⟨by decide +kernel, by decide +kernel⟩, List.mem_of_getElem? (i := 29) (by decide +kernel), List.mem_of_getElem? (i := 1450) (by decide +kernel), List.mem_of_getElem? (i := 1451) (by decide +kernel)⟩
theorem lw_p36 : lw_okq (⟨"DustYard", "richest", "()I"⟩, 14) := ⟨⟨by decide +kernel, by decide +kernel⟩, List.mem_of_getElem? (i := 29) (by decide +kernel), List.mem_of_getElem? (i := 1454) (by decide +kernel), List.mem_of_getElem? (i := 1455) (by decide +kernel)⟩
theorem lw_p37 : lw_okq (⟨"DustYardModel", "putsAside", "()V"⟩, 25) := ⟨⟨by decide +kernel, by decide +kernel⟩, List.mem_of_getElem? (i := 1520) (by decide +kernel), List.mem_of_getElem? (i := 1621) (by decide +kernel), List.mem_of_getElem? (i := 1622) (by decide +kernel)⟩
theorem lw_p38 : lw_okq (⟨"DustYardModel", "begins", "()V"⟩, 25) := ⟨⟨by decide +kernel, by decide +kernel⟩, List.mem_of_getElem? (i := 1520) (by decide +kernel), List.mem_of_getElem? (i := 1625) (by decide +kernel), List.mem_of_getElem? (i := 1626) (by decide +kernel)⟩
theorem lw_p39 : lw_okq (⟨"DustYardModel", "read", "(Z)I"⟩, 25) := ⟨⟨by decide +kernel, by decide +kernel⟩, List.mem_of_getElem? (i := 1520) (by decide +kernel), List.mem_of_getElem? (i := 1629) (by decide +kernel), List.mem_of_getElem? (i := 1630) (by decide +kernel)⟩
theorem lw_p40 : lw_okq (⟨"DustYardModel", "skip", "()V"⟩, 25) := ⟨⟨by decide +kernel, by decide +kernel⟩, List.mem_of_getElem? (i := 1520) (by decide +kernel), List.mem_of_getElem? (i := 1633) (by decide +kernel), List.mem_of_getElem? (i := 1634) (by decide +kernel)⟩
theorem lw_p41 : lw_okq (⟨"DustYardModel", "letter", "(I)I"⟩, 25) := ⟨⟨by decide +kernel, by decide +kernel⟩, List.mem_of_getElem? (i := 1520) (by decide +kernel), List.mem_of_getElem? (i := 1637) (by decide +kernel), List.mem_of_getElem? (i := 1638) (by decide +kernel)⟩
theorem lw_p42 : lw_okq (⟨"DustYardModel", "wrong", "(I)V"⟩, 25) := ⟨⟨by decide +kernel, by decide +kernel⟩, List.mem_of_getElem? (i := 1520) (by decide +kernel), List.mem_of_getElem? (i := 1641) (by decide +kernel), List.mem_of_getElem? (i := 1642) (by decide +kernel)⟩
theorem lw_p43 : lw_okq (⟨"DustYardModel", "lawLine", "()V"⟩, 25) := ⟨⟨by decide +kernel, by decide +kernel⟩, List.mem_of_getElem? (i := 1520) (by decide +kernel), List.mem_of_getElem? (i := 1645) (by decide +kernel), List.mem_of_getElem? (i := 1646) (by decide +kernel)⟩
theorem lw_p44 : lw_okq (⟨"DustYardModel", "has", "(Ljava/lang/String;)Z"⟩, 25) := ⟨⟨by decide +kernel, by decide +kernel⟩, List.mem_of_getElem? (i := 1520) (by decide +kernel), List.mem_of_getElem? (i := 1650) (by decide +kernel), List.mem_of_getElem? (i := 1651) (by decide +kernel)⟩
theorem lw_p45 : lw_okq (⟨"DustYardModel", "figures", "(II)I"⟩, 25) := ⟨⟨by decide +kernel, by decide +kernel⟩, List.mem_of_getElem? (i := 1520) (by decide +kernel), List.mem_of_getElem? (i := 1658) (by decide +kernel), List.mem_of_getElem? (i := 1659) (by decide +kernel)⟩
theorem lw_p46 : lw_okq (⟨"DustYardModel", "here", "()I"⟩, 25) := ⟨⟨by decide +kernel, by decide +kernel⟩, List.mem_of_getElem? (i := 1520) (by decide +kernel), List.mem_of_getElem? (i := 1662) (by decide +kernel), List.mem_of_getElem? (i := 1663) (by decide +kernel)⟩
theorem lw_p47 : lw_okq (⟨"DustYardModel", "some", "()Z"⟩, 25) := ⟨⟨by decide +kernel, by decide +kernel⟩, List.mem_of_getElem? (i := 1520) (by decide +kernel), List.mem_of_getElem? (i := 1667) (by decide +kernel), List.mem_of_getElem? (i := 1668) (by decide +kernel)⟩
def lw_privs_3 : List (MethodName × Nat) := [(⟨"DustYard", "nextForShovel", "([I)I"⟩, 14), (⟨"DustYard", "waysOfFire", "(II)J"⟩, 14), (⟨"DustYard", "fullest", "()I"⟩, 14), (⟨"DustYard", "farthest", "()I"⟩, 14), (⟨"DustYard", "richest", "()I"⟩, 14), (⟨"DustYardModel", "putsAside", "()V"⟩, 25), (⟨"DustYardModel", "begins", "()V"⟩, 25), (⟨"DustYardModel", "read", "(Z)I"⟩, 25), (⟨"DustYardModel", "skip", "()V"⟩, 25), (⟨"DustYardModel", "letter", "(I)I"⟩, 25), (⟨"DustYardModel", "wrong", "(I)V"⟩, 25), (⟨"DustYardModel", "lawLine", "()V"⟩, 25), (⟨"DustYardModel", "has", "(Ljava/lang/String;)Z"⟩, 25), (⟨"DustYardModel", "figures", "(II)I"⟩, 25), (⟨"DustYardModel", "here", "()I"⟩, 25), (⟨"DustYardModel", "some", "()Z"⟩, 25)]
theorem lw_r3 : ∀ q ∈ lw_privs_3, lw_okq q := List.forall_mem_cons.mpr ⟨lw_p32, List.forall_mem_cons.mpr ⟨lw_p33, List.forall_mem_cons.mpr ⟨lw_p34, List.forall_mem_cons.mpr ⟨lw_p35, List.forall_mem_cons.mpr ⟨lw_p36, List.forall_mem_cons.mpr ⟨lw_p37, List.forall_mem_cons.mpr ⟨lw_p38, List.forall_mem_cons.mpr ⟨lw_p39, List.forall_mem_cons.mpr ⟨lw_p40, List.forall_mem_cons.mpr ⟨lw_p41, List.forall_mem_cons.mpr ⟨lw_p42, List.forall_mem_cons.mpr ⟨lw_p43, List.forall_mem_cons.mpr ⟨lw_p44, List.forall_mem_cons.mpr ⟨lw_p45, List.forall_mem_cons.mpr ⟨lw_p46, List.forall_mem_cons.mpr ⟨lw_p47, fun _ h => absurd h List.not_mem_nil⟩⟩⟩⟩⟩⟩⟩⟩⟩⟩⟩⟩⟩⟩⟩⟩
theorem lw_p48 : lw_okq (⟨"DustYardModel", "every", "()Z"⟩, 25) := ⟨⟨by decide +kernel, by decide +kernel⟩, List.mem_of_getElem? (i := 1520) (by decide +kernel), List.mem_of_getElem? (i := 1671) (by decide +kernel), List.mem_of_getElem? (i := 1672) (by decide +kernel)⟩
theorem lw_p49 : lw_okq (⟨"DustYardModel", "atom", "()Z"⟩, 25) := ⟨⟨by decide +kernel, by decide +kernel⟩, List.mem_of_getElem? (i := 1520) (by decide +kernel), List.mem_of_getElem? (i := 1675) (by decide +kernel), List.mem_of_getElem? (i := 1676) (by decide +kernel)⟩
theorem lw_p50 : lw_okq (⟨"DustYardModel", "isSign", "(I)Z"⟩, 25) := ⟨⟨by decide +kernel, by decide +kernel⟩, List.mem_of_getElem? (i := 1520) (by decide +kernel), List.mem_of_getElem? (i := 1680) (by decide +kernel), List.mem_of_getElem? (i := 1681) (by decide +kernel)⟩
theorem lw_p51 : lw_okq (⟨"DustYardModel", "plain", "()Z"⟩, 25) := ⟨⟨by decide +kernel, by decide +kernel⟩, List.mem_of_getElem? (i := 1520) (by decide +kernel), List.mem_of_getElem? (i := 1684) (by decide +kernel), List.mem_of_getElem? (i := 1685) (by decide +kernel)⟩
theorem lw_p52 : lw_okq (⟨"DustYardModel", "sum", "()I"⟩, 25) := ⟨⟨by decide +kernel, by decide +kernel⟩, List.mem_of_getElem? (i := 1520) (by decide +kernel), List.mem_of_getElem? (i := 1691) (by decide +kernel), List.mem_of_getElem? (i := 1692) (by decide +kernel)⟩
theorem lw_p53 : lw_okq (⟨"DustYardModel", "part", "()I"⟩, 25) := ⟨⟨by decide +kernel, by decide +kernel⟩, List.mem_of_getElem? (i := 1520) (by decide +kernel), List.mem_of_getElem? (i := 1695) (by decide +kernel), List.mem_of_getElem? (i := 1696) (by decide +kernel)⟩
theorem lw_p54 : lw_okq (⟨"DustYardModel", "yardLine", "()V"⟩, 25) := ⟨⟨by decide +kernel, by decide +kernel⟩, List.mem_of_getElem? (i := 1520) (by decide +kernel), List.mem_of_getElem? (i := 1708) (by decide +kernel), List.mem_of_getElem? (i := 1709) (by decide +kernel)⟩
theorem lw_p55 : lw_okq (⟨"DustYardModel", "streetLine", "(I)V"⟩, 25) := ⟨⟨by decide +kernel, by decide +kernel⟩, List.mem_of_getElem? (i := 1520) (by decide +kernel), List.mem_of_getElem? (i := 1712) (by decide +kernel), List.mem_of_getElem? (i := 1713) (by decide +kernel)⟩
theorem lw_p56 : lw_okq (⟨"DustYardModel", "after", "(Ljava/lang/String;II)I"⟩, 25) := ⟨⟨by decide +kernel, by decide +kernel⟩, List.mem_of_getElem? (i := 1520) (by decide +kernel), List.mem_of_getElem? (i := 1717) (by decide +kernel), List.mem_of_getElem? (i := 1718) (by decide +kernel)⟩
theorem lw_p57 : lw_okq (⟨"DustYardModel", "expects", "(Ljava/lang/String;)Z"⟩, 25) := ⟨⟨by decide +kernel, by decide +kernel⟩, List.mem_of_getElem? (i := 1520) (by decide +kernel), List.mem_of_getElem? (i := 1722) (by decide +kernel), List.mem_of_getElem? (i := 1723) (by decide +kernel)⟩
theorem lw_p58 : lw_okq (⟨"DustYardModel", "cartLine", "(I)V"⟩, 25) := ⟨⟨by decide +kernel, by decide +kernel⟩, List.mem_of_getElem? (i := 1520) (by decide +kernel), List.mem_of_getElem? (i := 1727) (by decide +kernel), List.mem_of_getElem? (i := 1728) (by decide +kernel)⟩
theorem lw_p59 : lw_okq (⟨"DustYardModel", "hires", "(II)V"⟩, 25) := ⟨⟨by decide +kernel, by decide +kernel⟩, List.mem_of_getElem? (i := 1520) (by decide +kernel), List.mem_of_getElem? (i := 1733) (by decide +kernel), List.mem_of_getElem? (i := 1734) (by decide +kernel)⟩
theorem lw_p60 : lw_okq (⟨"DustYardModel", "sieveLine", "(I)V"⟩, 25) := ⟨⟨by decide +kernel, by decide +kernel⟩, List.mem_of_getElem? (i := 1520) (by decide +kernel), List.mem_of_getElem? (i := 1738) (by decide +kernel), List.mem_of_getElem? (i := 1739) (by decide +kernel)⟩
theorem lw_p61 : lw_okq (⟨"DustYardModel", "buys", "(I)V"⟩, 25) := ⟨⟨by decide +kernel, by decide +kernel⟩, List.mem_of_getElem? (i := 1520) (by decide +kernel), List.mem_of_getElem? (i := 1742) (by decide +kernel), List.mem_of_getElem? (i := 1743) (by decide +kernel)⟩
theorem lw_p62 : lw_okq (⟨"DustYardModel", "dealLine", "(I)V"⟩, 25) := ⟨⟨by decide +kernel, by decide +kernel⟩, List.mem_of_getElem? (i := 1520) (by decide +kernel), List.mem_of_getElem? (i := 1747) (by decide +kernel), List.mem_of_getElem? (i := 1748) (by decide +kernel)⟩
theorem lw_p63 : lw_okq (⟨"DustYardModel", "takes", "(IIII)V"⟩, 25) := ⟨⟨by decide +kernel, by decide +kernel⟩, List.mem_of_getElem? (i := 1520) (by decide +kernel), List.mem_of_getElem? (i := 1757) (by decide +kernel), List.mem_of_getElem? (i := 1758) (by decide +kernel)⟩
def lw_privs_4 : List (MethodName × Nat) := [(⟨"DustYardModel", "every", "()Z"⟩, 25), (⟨"DustYardModel", "atom", "()Z"⟩, 25), (⟨"DustYardModel", "isSign", "(I)Z"⟩, 25), (⟨"DustYardModel", "plain", "()Z"⟩, 25), (⟨"DustYardModel", "sum", "()I"⟩, 25), (⟨"DustYardModel", "part", "()I"⟩, 25), (⟨"DustYardModel", "yardLine", "()V"⟩, 25), (⟨"DustYardModel", "streetLine", "(I)V"⟩, 25), (⟨"DustYardModel", "after", "(Ljava/lang/String;II)I"⟩, 25), (⟨"DustYardModel", "expects", "(Ljava/lang/String;)Z"⟩, 25), (⟨"DustYardModel", "cartLine", "(I)V"⟩, 25), (⟨"DustYardModel", "hires", "(II)V"⟩, 25), (⟨"DustYardModel", "sieveLine", "(I)V"⟩, 25), (⟨"DustYardModel", "buys", "(I)V"⟩, 25), (⟨"DustYardModel", "dealLine", "(I)V"⟩, 25), (⟨"DustYardModel", "takes", "(IIII)V"⟩, 25)]
theorem lw_r4 : ∀ q ∈ lw_privs_4, lw_okq q := List.forall_mem_cons.mpr ⟨lw_p48, List.forall_mem_cons.mpr ⟨lw_p49, List.forall_mem_cons.mpr ⟨lw_p50, List.forall_mem_cons.mpr ⟨lw_p51, List.forall_mem_cons.mpr ⟨lw_p52, List.forall_mem_cons.mpr ⟨lw_p53, List.forall_mem_cons.mpr ⟨lw_p54, List.forall_mem_cons.mpr ⟨lw_p55, List.forall_mem_cons.mpr ⟨lw_p56, List.forall_mem_cons.mpr ⟨lw_p57, List.forall_mem_cons.mpr ⟨lw_p58, List.forall_mem_cons.mpr ⟨lw_p59, List.forall_mem_cons.mpr ⟨lw_p60, List.forall_mem_cons.mpr ⟨lw_p61, List.forall_mem_cons.mpr ⟨lw_p62, List.forall_mem_cons.mpr ⟨lw_p63, fun _ h => absurd h List.not_mem_nil⟩⟩⟩⟩⟩⟩⟩⟩⟩⟩⟩⟩⟩⟩⟩⟩
theorem lw_p64 : lw_okq (⟨"DustYardModel", "heapLine", "()V"⟩, 25) := ⟨⟨by decide +kernel, by decide +kernel⟩, List.mem_of_getElem? (i := 1520) (by decide +kernel), List.mem_of_getElem? (i := 1762) (by decide +kernel), List.mem_of_getElem? (i := 1763) (by decide +kernel)⟩
theorem lw_p65 : lw_okq (⟨"DustYardModel", "tells", "(III)V"⟩, 25) := ⟨⟨by decide +kernel, by decide +kernel⟩, List.mem_of_getElem? (i := 1520) (by decide +kernel), List.mem_of_getElem? (i := 1767) (by decide +kernel), List.mem_of_getElem? (i := 1768) (by decide +kernel)⟩
theorem lw_p66 : lw_okq (⟨"DustYardModel", "comesBack", "()V"⟩, 25) := ⟨⟨by decide +kernel, by decide +kernel⟩, List.mem_of_getElem? (i := 1520) (by decide +kernel), List.mem_of_getElem? (i := 1772) (by decide +kernel), List.mem_of_getElem? (i := 1773) (by decide +kernel)⟩
theorem lw_p67 : lw_okq (⟨"DustYardModel", "isStreet", "(I)Z"⟩, 25) := ⟨⟨by decide +kernel, by decide +kernel⟩, List.mem_of_getElem? (i := 1520) (by decide +kernel), List.mem_of_getElem? (i := 1788) (by decide +kernel), List.mem_of_getElem? (i := 1789) (by decide +kernel)⟩
theorem lw_p68 : lw_okq (⟨"DustYardModel", "of", "(II)I"⟩, 25) := ⟨⟨by decide +kernel, by decide +kernel⟩, List.mem_of_getElem? (i := 1520) (by decide +kernel), List.mem_of_getElem? (i := 1792) (by decide +kernel), List.mem_of_getElem? (i := 1793) (by decide +kernel)⟩
theorem lw_p69 : lw_okq (⟨"DustYardModel", "loadOf", "(I)I"⟩, 25) := ⟨⟨by decide +kernel, by decide +kernel⟩, List.mem_of_getElem? (i := 1520) (by decide +kernel), List.mem_of_getElem? (i := 1796) (by decide +kernel), List.mem_of_getElem? (i := 1797) (by decide +kernel)⟩
theorem lw_p70 : lw_okq (⟨"DustYardModel", "mixOf", "(II)I"⟩, 25) := ⟨⟨by decide +kernel, by decide +kernel⟩, List.mem_of_getElem? (i := 1520) (by decide +kernel), List.mem_of_getElem? (i := 1800) (by decide +kernel), List.mem_of_getElem? (i := 1801) (by decide +kernel)⟩
theorem lw_p71 : lw_okq (⟨"DustYardModel", "fillsOf", "(I)I"⟩, 25) := ⟨⟨by decide +kernel, by decide +kernel⟩, List.mem_of_getElem? (i := 1520) (by decide +kernel), List.mem_of_getElem? (i := 1804) (by decide +kernel), List.mem_of_getElem? (i := 1805) (by decide +kernel)⟩
theorem lw_p72 : lw_okq (⟨"DustYardModel", "asks", "(I)V"⟩, 25) := ⟨⟨by decide +kernel, by decide +kernel⟩, List.mem_of_getElem? (i := 1520) (by decide +kernel), List.mem_of_getElem? (i := 1808) (by decide +kernel), List.mem_of_getElem? (i := 1809) (by decide +kernel)⟩
theorem lw_p73 : lw_okq (⟨"DustYardModel", "tollOf", "(I)I"⟩, 25) := ⟨⟨by decide +kernel, by decide +kernel⟩, List.mem_of_getElem? (i := 1520) (by decide +kernel), List.mem_of_getElem? (i := 1812) (by decide +kernel), List.mem_of_getElem? (i := 1813) (by decide +kernel)⟩
theorem lw_p74 : lw_okq (⟨"DustYardModel", "wayOf", "(II)I"⟩, 25) := ⟨⟨by decide +kernel, by decide +kernel⟩, List.mem_of_getElem? (i := 1520) (by decide +kernel), List.mem_of_getElem? (i := 1816) (by decide +kernel), List.mem_of_getElem? (i := 1817) (by decide +kernel)⟩
theorem lw_p75 : lw_okq (⟨"DustYardModel", "waitsOfAll", "()I"⟩, 25) := ⟨⟨by decide +kernel, by decide +kernel⟩, List.mem_of_getElem? (i := 1520) (by decide +kernel), List.mem_of_getElem? (i := 1820) (by decide +kernel), List.mem_of_getElem? (i := 1821) (by decide +kernel)⟩
theorem lw_p76 : lw_okq (⟨"DustYardModel", "isCart", "(I)Z"⟩, 25) := ⟨⟨by decide +kernel, by decide +kernel⟩, List.mem_of_getElem? (i := 1520) (by decide +kernel), List.mem_of_getElem? (i := 1835) (by decide +kernel), List.mem_of_getElem? (i := 1836) (by decide +kernel)⟩
theorem lw_p77 : lw_okq (⟨"DustYardModel", "hold", "(I)I"⟩, 25) := ⟨⟨by decide +kernel, by decide +kernel⟩, List.mem_of_getElem? (i := 1520) (by decide +kernel), List.mem_of_getElem? (i := 1839) (by decide +kernel), List.mem_of_getElem? (i := 1840) (by decide +kernel)⟩
theorem lw_p78 : lw_okq (⟨"DustYardModel", "goesFar", "(I)I"⟩, 25) := ⟨⟨by decide +kernel, by decide +kernel⟩, List.mem_of_getElem? (i := 1520) (by decide +kernel), List.mem_of_getElem? (i := 1843) (by decide +kernel), List.mem_of_getElem? (i := 1844) (by decide +kernel)⟩
theorem lw_p79 : lw_okq (⟨"DustYardModel", "reached", "(I)I"⟩, 25) := ⟨⟨by decide +kernel, by decide +kernel⟩, List.mem_of_getElem? (i := 1520) (by decide +kernel), List.mem_of_getElem? (i := 1847) (by decide +kernel), List.mem_of_getElem? (i := 1848) (by decide +kernel)⟩
def lw_privs_5 : List (MethodName × Nat) := [(⟨"DustYardModel", "heapLine", "()V"⟩, 25), (⟨"DustYardModel", "tells", "(III)V"⟩, 25), (⟨"DustYardModel", "comesBack", "()V"⟩, 25), (⟨"DustYardModel", "isStreet", "(I)Z"⟩, 25), (⟨"DustYardModel", "of", "(II)I"⟩, 25), (⟨"DustYardModel", "loadOf", "(I)I"⟩, 25), (⟨"DustYardModel", "mixOf", "(II)I"⟩, 25), (⟨"DustYardModel", "fillsOf", "(I)I"⟩, 25), (⟨"DustYardModel", "asks", "(I)V"⟩, 25), (⟨"DustYardModel", "tollOf", "(I)I"⟩, 25), (⟨"DustYardModel", "wayOf", "(II)I"⟩, 25), (⟨"DustYardModel", "waitsOfAll", "()I"⟩, 25), (⟨"DustYardModel", "isCart", "(I)Z"⟩, 25), (⟨"DustYardModel", "hold", "(I)I"⟩, 25), (⟨"DustYardModel", "goesFar", "(I)I"⟩, 25), (⟨"DustYardModel", "reached", "(I)I"⟩, 25)]
theorem lw_r5 : ∀ q ∈ lw_privs_5, lw_okq q := List.forall_mem_cons.mpr ⟨lw_p64, List.forall_mem_cons.mpr ⟨lw_p65, List.forall_mem_cons.mpr ⟨lw_p66, List.forall_mem_cons.mpr ⟨lw_p67, List.forall_mem_cons.mpr ⟨lw_p68, List.forall_mem_cons.mpr ⟨lw_p69, List.forall_mem_cons.mpr ⟨lw_p70, List.forall_mem_cons.mpr ⟨lw_p71, List.forall_mem_cons.mpr ⟨lw_p72, List.forall_mem_cons.mpr ⟨lw_p73, List.forall_mem_cons.mpr ⟨lw_p74, List.forall_mem_cons.mpr ⟨lw_p75, List.forall_mem_cons.mpr ⟨lw_p76, List.forall_mem_cons.mpr ⟨lw_p77, List.forall_mem_cons.mpr ⟨lw_p78, List.forall_mem_cons.mpr ⟨lw_p79, fun _ h => absurd h List.not_mem_nil⟩⟩⟩⟩⟩⟩⟩⟩⟩⟩⟩⟩⟩⟩⟩⟩
theorem lw_p80 : lw_okq (⟨"DustYardModel", "bestRound", "(I)I"⟩, 25) := ⟨⟨by decide +kernel, by decide +kernel⟩, List.mem_of_getElem? (i := 1520) (by decide +kernel), List.mem_of_getElem? (i := 1851) (by decide +kernel), List.mem_of_getElem? (i := 1852) (by decide +kernel)⟩
theorem lw_p81 : lw_okq (⟨"DustYardModel", "allLoops", "()V"⟩, 25) := ⟨⟨by decide +kernel, by decide +kernel⟩, List.mem_of_getElem? (i := 1520) (by decide +kernel), List.mem_of_getElem? (i := 1855) (by decide +kernel), List.mem_of_getElem? (i := 1856) (by decide +kernel)⟩
theorem lw_p82 : lw_okq (⟨"DustYardModel", "waitsOf", "(I)I"⟩, 25) := ⟨⟨by decide +kernel, by decide +kernel⟩, List.mem_of_getElem? (i := 1520) (by decide +kernel), List.mem_of_getElem? (i := 1866) (by decide +kernel), List.mem_of_getElem? (i := 1867) (by decide +kernel)⟩
theorem lw_p83 : lw_okq (⟨"DustYardModel", "isDeal", "(I)Z"⟩, 25) := ⟨⟨by decide +kernel, by decide +kernel⟩, List.mem_of_getElem? (i := 1520) (by decide +kernel), List.mem_of_getElem? (i := 1878) (by decide +kernel), List.mem_of_getElem? (i := 1879) (by decide +kernel)⟩
theorem lw_p84 : lw_okq (⟨"DustYardModel", "ofDeal", "(II)I"⟩, 25) := ⟨⟨by decide +kernel, by decide +kernel⟩, List.mem_of_getElem? (i := 1520) (by decide +kernel), List.mem_of_getElem? (i := 1882) (by decide +kernel), List.mem_of_getElem? (i := 1883) (by decide +kernel)⟩
theorem lw_p85 : lw_okq (⟨"DustYardModel", "heaped", "(I)I"⟩, 25) := ⟨⟨by decide +kernel, by decide +kernel⟩, List.mem_of_getElem? (i := 1520) (by decide +kernel), List.mem_of_getElem? (i := 1890) (by decide +kernel), List.mem_of_getElem? (i := 1891) (by decide +kernel)⟩
theorem lw_p86 : lw_okq (⟨"DustYardModel", "remembers", "()V"⟩, 25) := ⟨⟨by decide +kernel, by decide +kernel⟩, List.mem_of_getElem? (i := 1520) (by decide +kernel), List.mem_of_getElem? (i := 1902) (by decide +kernel), List.mem_of_getElem? (i := 1903) (by decide +kernel)⟩
theorem lw_p87 : lw_okq (⟨"DustYardModel", "goes", "(IZ)I"⟩, 25) := ⟨⟨by decide +kernel, by decide +kernel⟩, List.mem_of_getElem? (i := 1520) (by decide +kernel), List.mem_of_getElem? (i := 1906) (by decide +kernel), List.mem_of_getElem? (i := 1907) (by decide +kernel)⟩
theorem lw_p88 : lw_okq (⟨"DustYardModel", "passes", "(Z)I"⟩, 25) := ⟨⟨by decide +kernel, by decide +kernel⟩, List.mem_of_getElem? (i := 1520) (by decide +kernel), List.mem_of_getElem? (i := 1910) (by decide +kernel), List.mem_of_getElem? (i := 1911) (by decide +kernel)⟩
theorem lw_p89 : lw_okq (⟨"DustYardModel", "drives", "(I)V"⟩, 25) := ⟨⟨by decide +kernel, by decide +kernel⟩, List.mem_of_getElem? (i := 1520) (by decide +kernel), List.mem_of_getElem? (i := 1914) (by decide +kernel), List.mem_of_getElem? (i := 1915) (by decide +kernel)⟩
theorem lw_p90 : lw_okq (⟨"DustYardModel", "unloads", "(II)V"⟩, 25) := ⟨⟨by decide +kernel, by decide +kernel⟩, List.mem_of_getElem? (i := 1520) (by decide +kernel), List.mem_of_getElem? (i := 1918) (by decide +kernel), List.mem_of_getElem? (i := 1919) (by decide +kernel)⟩
theorem lw_p91 : lw_okq (⟨"DustYardModel", "logs", "(IIII)V"⟩, 25) := ⟨⟨by decide +kernel, by decide +kernel⟩, List.mem_of_getElem? (i := 1520) (by decide +kernel), List.mem_of_getElem? (i := 1922) (by decide +kernel), List.mem_of_getElem? (i := 1923) (by decide +kernel)⟩
theorem lw_p92 : lw_okq (⟨"DustYardModel", "draw", "(I)I"⟩, 25) := ⟨⟨by decide +kernel, by decide +kernel⟩, List.mem_of_getElem? (i := 1520) (by decide +kernel), List.mem_of_getElem? (i := 1926) (by decide +kernel), List.mem_of_getElem? (i := 1927) (by decide +kernel)⟩
theorem lw_p93 : lw_okq (⟨"DustYardModel", "halves", "(I)V"⟩, 25) := ⟨⟨by decide +kernel, by decide +kernel⟩, List.mem_of_getElem? (i := 1520) (by decide +kernel), List.mem_of_getElem? (i := 1931) (by decide +kernel), List.mem_of_getElem? (i := 1932) (by decide +kernel)⟩
theorem lw_p94 : lw_okq (⟨"DustYardModel", "isOpen", "(I)Z"⟩, 25) := ⟨⟨by decide +kernel, by decide +kernel⟩, List.mem_of_getElem? (i := 1520) (by decide +kernel), List.mem_of_getElem? (i := 1935) (by decide +kernel), List.mem_of_getElem? (i := 1936) (by decide +kernel)⟩
theorem lw_p95 : lw_okq (⟨"DustYardModel", "hasFor", "(I)Z"⟩, 25) := ⟨⟨by decide +kernel, by decide +kernel⟩, List.mem_of_getElem? (i := 1520) (by decide +kernel), List.mem_of_getElem? (i := 1939) (by decide +kernel), List.mem_of_getElem? (i := 1940) (by decide +kernel)⟩
def lw_privs_6 : List (MethodName × Nat) := [(⟨"DustYardModel", "bestRound", "(I)I"⟩, 25), (⟨"DustYardModel", "allLoops", "()V"⟩, 25), (⟨"DustYardModel", "waitsOf", "(I)I"⟩, 25), (⟨"DustYardModel", "isDeal", "(I)Z"⟩, 25), (⟨"DustYardModel", "ofDeal", "(II)I"⟩, 25), (⟨"DustYardModel", "heaped", "(I)I"⟩, 25), (⟨"DustYardModel", "remembers", "()V"⟩, 25), (⟨"DustYardModel", "goes", "(IZ)I"⟩, 25), (⟨"DustYardModel", "passes", "(Z)I"⟩, 25), (⟨"DustYardModel", "drives", "(I)V"⟩, 25), (⟨"DustYardModel", "unloads", "(II)V"⟩, 25), (⟨"DustYardModel", "logs", "(IIII)V"⟩, 25), (⟨"DustYardModel", "draw", "(I)I"⟩, 25), (⟨"DustYardModel", "halves", "(I)V"⟩, 25), (⟨"DustYardModel", "isOpen", "(I)Z"⟩, 25), (⟨"DustYardModel", "hasFor", "(I)Z"⟩, 25)]
theorem lw_r6 : ∀ q ∈ lw_privs_6, lw_okq q := List.forall_mem_cons.mpr ⟨lw_p80, List.forall_mem_cons.mpr ⟨lw_p81, List.forall_mem_cons.mpr ⟨lw_p82, List.forall_mem_cons.mpr ⟨lw_p83, List.forall_mem_cons.mpr ⟨lw_p84, List.forall_mem_cons.mpr ⟨lw_p85, List.forall_mem_cons.mpr ⟨lw_p86, List.forall_mem_cons.mpr ⟨lw_p87, List.forall_mem_cons.mpr ⟨lw_p88, List.forall_mem_cons.mpr ⟨lw_p89, List.forall_mem_cons.mpr ⟨lw_p90, List.forall_mem_cons.mpr ⟨lw_p91, List.forall_mem_cons.mpr ⟨lw_p92, List.forall_mem_cons.mpr ⟨lw_p93, List.forall_mem_cons.mpr ⟨lw_p94, List.forall_mem_cons.mpr ⟨lw_p95, fun _ h => absurd h List.not_mem_nil⟩⟩⟩⟩⟩⟩⟩⟩⟩⟩⟩⟩⟩⟩⟩⟩
theorem lw_p96 : lw_okq (⟨"DustYardModel", "heapBetween", "(II)I"⟩, 25) := ⟨⟨by decide +kernel, by decide +kernel⟩, List.mem_of_getElem? (i := 1520) (by decide +kernel), List.mem_of_getElem? (i := 1943) (by decide +kernel), List.mem_of_getElem? (i := 1944) (by decide +kernel)⟩
theorem lw_p97 : lw_okq (⟨"DustYardModel", "isFilled", "(II)V"⟩, 25) := ⟨⟨by decide +kernel, by decide +kernel⟩, List.mem_of_getElem? (i := 1520) (by decide +kernel), List.mem_of_getElem? (i := 1947) (by decide +kernel), List.mem_of_getElem? (i := 1948) (by decide +kernel)⟩
theorem lw_p98 : lw_okq (⟨"DustYardModel", "sets", "(II)I"⟩, 25) := ⟨⟨by decide +kernel, by decide +kernel⟩, List.mem_of_getElem? (i := 1520) (by decide +kernel), List.mem_of_getElem? (i := 1959) (by decide +kernel), List.mem_of_getElem? (i := 1960) (by decide +kernel)⟩
theorem lw_p99 : lw_okq (⟨"DustYardModel", "isBegin", "(II)Z"⟩, 25) := ⟨⟨by decide +kernel, by decide +kernel⟩, List.mem_of_getElem? (i := 1520) (by decide +kernel), List.mem_of_getElem? (i := 1991) (by decide +kernel), List.mem_of_getElem? (i := 1992) (by decide +kernel)⟩
theorem lw_p100 : lw_okq (⟨"DustYardModel", "runLow", "(II)I"⟩, 25) := ⟨⟨by decide +kernel, by decide +kernel⟩, List.mem_of_getElem? (i := 1520) (by decide +kernel), List.mem_of_getElem? (i := 1999) (by decide +kernel), List.mem_of_getElem? (i := 2000) (by decide +kernel)⟩
theorem lw_p101 : lw_okq (⟨"DustYardModel", "runHigh", "(II)I"⟩, 25) := ⟨⟨by decide +kernel, by decide +kernel⟩, List.mem_of_getElem? (i := 1520) (by decide +kernel), List.mem_of_getElem? (i := 2003) (by decide +kernel), List.mem_of_getElem? (i := 2004) (by decide +kernel)⟩
theorem lw_p102 : lw_okq (⟨"DustYardModel", "partsAll", "(I)Z"⟩, 25) := ⟨⟨by decide +kernel, by decide +kernel⟩, List.mem_of_getElem? (i := 1520) (by decide +kernel), List.mem_of_getElem? (i := 2015) (by decide +kernel), List.mem_of_getElem? (i := 2016) (by decide +kernel)⟩
theorem lw_p103 : lw_okq (⟨"DustYardModel", "mostServed", "()I"⟩, 25) := ⟨⟨by decide +kernel, by decide +kernel⟩, List.mem_of_getElem? (i := 1520) (by decide +kernel), List.mem_of_getElem? (i := 2038) (by decide +kernel), List.mem_of_getElem? (i := 2039) (by decide +kernel)⟩
theorem lw_p104 : lw_okq (⟨"DustYardModel", "paysOfSet", "(I)I"⟩, 25) := ⟨⟨by decide +kernel, by decide +kernel⟩, List.mem_of_getElem? (i := 1520) (by decide +kernel), List.mem_of_getElem? (i := 2042) (by decide +kernel), List.mem_of_getElem? (i := 2043) (by decide +kernel)⟩
theorem lw_p105 : lw_okq (⟨"DustYardModel", "paysOf", "(I)I"⟩, 25) := ⟨⟨by decide +kernel, by decide +kernel⟩, List.mem_of_getElem? (i := 1520) (by decide +kernel), List.mem_of_getElem? (i := 2046) (by decide +kernel), List.mem_of_getElem? (i := 2047) (by decide +kernel)⟩
theorem lw_p106 : lw_okq (⟨"DustYardModel", "areServed", "(I)Z"⟩, 25) := ⟨⟨by decide +kernel, by decide +kernel⟩, List.mem_of_getElem? (i := 1520) (by decide +kernel), List.mem_of_getElem? (i := 2050) (by decide +kernel), List.mem_of_getElem? (i := 2051) (by decide +kernel)⟩
theorem lw_p107 : lw_okq (⟨"DustYardModel", "openOnes", "()I"⟩, 25) := ⟨⟨by decide +kernel, by decide +kernel⟩, List.mem_of_getElem? (i := 1520) (by decide +kernel), List.mem_of_getElem? (i := 2054) (by decide +kernel), List.mem_of_getElem? (i := 2055) (by decide +kernel)⟩
theorem lw_p108 : lw_okq (⟨"DustYardModel", "hears", "()I"⟩, 25) := ⟨⟨by decide +kernel, by decide +kernel⟩, List.mem_of_getElem? (i := 1520) (by decide +kernel), List.mem_of_getElem? (i := 2070) (by decide +kernel), List.mem_of_getElem? (i := 2071) (by decide +kernel)⟩
theorem lw_p109 : lw_okq (⟨"DustYardModel", "partBy", "(II)I"⟩, 25) := ⟨⟨by decide +kernel, by decide +kernel⟩, List.mem_of_getElem? (i := 1520) (by decide +kernel), List.mem_of_getElem? (i := 2082) (by decide +kernel), List.mem_of_getElem? (i := 2083) (by decide +kernel)⟩
theorem lw_p110 : lw_okq (⟨"DustYardModel", "siftRows", "()I"⟩, 25) := ⟨⟨by decide +kernel, by decide +kernel⟩, List.mem_of_getElem? (i := 1520) (by decide +kernel), List.mem_of_getElem? (i := 2090) (by decide +kernel), List.mem_of_getElem? (i := 2091) (by decide +kernel)⟩
theorem lw_p111 : lw_okq (⟨"DustYardModel", "fitsPair", "(II)Z"⟩, 25) := ⟨⟨by decide +kernel, by decide +kernel⟩, List.mem_of_getElem? (i := 1520) (by decide +kernel), List.mem_of_getElem? (i := 2094) (by decide +kernel), List.mem_of_getElem? (i := 2095) (by decide +kernel)⟩
def lw_privs_7 : List (MethodName × Nat) := [(⟨"DustYardModel", "heapBetween", "(II)I"⟩, 25), (⟨"DustYardModel", "isFilled", "(II)V"⟩, 25), (⟨"DustYardModel", "sets", "(II)I"⟩, 25), (⟨"DustYardModel", "isBegin", "(II)Z"⟩, 25), (⟨"DustYardModel", "runLow", "(II)I"⟩, 25), (⟨"DustYardModel", "runHigh", "(II)I"⟩, 25), (⟨"DustYardModel", "partsAll", "(I)Z"⟩, 25), (⟨"DustYardModel", "mostServed", "()I"⟩, 25), (⟨"DustYardModel", "paysOfSet", "(I)I"⟩, 25), (⟨"DustYardModel", "paysOf", "(I)I"⟩, 25), (⟨"DustYardModel", "areServed", "(I)Z"⟩, 25), (⟨"DustYardModel", "openOnes", "()I"⟩, 25), (⟨"DustYardModel", "hears", "()I"⟩, 25), (⟨"DustYardModel", "partBy", "(II)I"⟩, 25), (⟨"DustYardModel", "siftRows", "()I"⟩, 25), (⟨"DustYardModel", "fitsPair", "(II)Z"⟩, 25)]
theorem lw_r7 : ∀ q ∈ lw_privs_7, lw_okq q := List.forall_mem_cons.mpr ⟨lw_p96, List.forall_mem_cons.mpr ⟨lw_p97, List.forall_mem_cons.mpr ⟨lw_p98, List.forall_mem_cons.mpr ⟨lw_p99, List.forall_mem_cons.mpr ⟨lw_p100, List.forall_mem_cons.mpr ⟨lw_p101, List.forall_mem_cons.mpr ⟨lw_p102, List.forall_mem_cons.mpr ⟨lw_p103, List.forall_mem_cons.mpr ⟨lw_p104, List.forall_mem_cons.mpr ⟨lw_p105, List.forall_mem_cons.mpr ⟨lw_p106, List.forall_mem_cons.mpr ⟨lw_p107, List.forall_mem_cons.mpr ⟨lw_p108, List.forall_mem_cons.mpr ⟨lw_p109, List.forall_mem_cons.mpr ⟨lw_p110, List.forall_mem_cons.mpr ⟨lw_p111, fun _ h => absurd h List.not_mem_nil⟩⟩⟩⟩⟩⟩⟩⟩⟩⟩⟩⟩⟩⟩⟩⟩
theorem lw_p112 : lw_okq (⟨"DustYardModel", "allEnds", "()V"⟩, 25) := ⟨⟨by decide +kernel, by decide +kernel⟩, List.mem_of_getElem? (i := 1520) (by decide +kernel), List.mem_of_getElem? (i := 2112) (by decide +kernel), List.mem_of_getElem? (i := 2113) (by decide +kernel)⟩
theorem lw_p113 : lw_okq (⟨"DustYardModel", "allBest", "()V"⟩, 25) := ⟨⟨by decide +kernel, by decide +kernel⟩, List.mem_of_getElem? (i := 1520) (by decide +kernel), List.mem_of_getElem? (i := 2124) (by decide +kernel), List.mem_of_getElem? (i := 2125) (by decide +kernel)⟩
theorem lw_p114 : lw_okq (⟨"DustYardModel", "both", "(II)I"⟩, 25) := ⟨⟨by decide +kernel, by decide +kernel⟩, List.mem_of_getElem? (i := 1520) (by decide +kernel), List.mem_of_getElem? (i := 2131) (by decide +kernel), List.mem_of_getElem? (i := 2132) (by decide +kernel)⟩
theorem lw_p115 : lw_okq (⟨"DustYardModel", "heHas", "(III)I"⟩, 25) := ⟨⟨by decide +kernel, by decide +kernel⟩, List.mem_of_getElem? (i := 1520) (by decide +kernel), List.mem_of_getElem? (i := 2143) (by decide +kernel), List.mem_of_getElem? (i := 2144) (by decide +kernel)⟩
theorem lw_p116 : lw_okq (⟨"DustYardModel", "valueOf", "(II)I"⟩, 25) := ⟨⟨by decide +kernel, by decide +kernel⟩, List.mem_of_getElem? (i := 1520) (by decide +kernel), List.mem_of_getElem? (i := 2160) (by decide +kernel), List.mem_of_getElem? (i := 2161) (by decide +kernel)⟩
theorem lw_p117 : lw_okq (⟨"DustYardModel", "logged", "(II)I"⟩, 25) := ⟨⟨by decide +kernel, by decide +kernel⟩, List.mem_of_getElem? (i := 1520) (by decide +kernel), List.mem_of_getElem? (i := 2192) (by decide +kernel), List.mem_of_getElem? (i := 2193) (by decide +kernel)⟩
def lw_privs_8 : List (MethodName × Nat) := [(⟨"DustYardModel", "allEnds", "()V"⟩, 25), (⟨"DustYardModel", "allBest", "()V"⟩, 25), (⟨"DustYardModel", "both", "(II)I"⟩, 25), (⟨"DustYardModel", "heHas", "(III)I"⟩, 25), (⟨"DustYardModel", "valueOf", "(II)I"⟩, 25), (⟨"DustYardModel", "logged", "(II)I"⟩, 25)]
theorem lw_r8 : ∀ q ∈ lw_privs_8, lw_okq q := List.forall_mem_cons.mpr ⟨lw_p112, List.forall_mem_cons.mpr ⟨lw_p113, List.forall_mem_cons.mpr ⟨lw_p114, List.forall_mem_cons.mpr ⟨lw_p115, List.forall_mem_cons.mpr ⟨lw_p116, List.forall_mem_cons.mpr ⟨lw_p117, fun _ h => absurd h List.not_mem_nil⟩⟩⟩⟩⟩⟩
def lw_privs : List (MethodName × Nat) := lw_privs_1 ++ (lw_privs_2 ++ (lw_privs_3 ++ (lw_privs_4 ++ (lw_privs_5 ++ (lw_privs_6 ++ (lw_privs_7 ++ (lw_privs_8)))))))
def lw_tbl : List Cond := k2_sels lw_privs ++ tables_1
theorem lw_privs_ok : ∀ q ∈ lw_privs, lw_okq q := by
  show ∀ q ∈ lw_privs_1 ++ (lw_privs_2 ++ (lw_privs_3 ++ (lw_privs_4 ++ (lw_privs_5 ++ (lw_privs_6 ++ (lw_privs_7 ++ (lw_privs_8))))))), lw_okq q
  exact List.forall_mem_append.mpr ⟨lw_r1, List.forall_mem_append.mpr ⟨lw_r2, List.forall_mem_append.mpr ⟨lw_r3, List.forall_mem_append.mpr ⟨lw_r4, List.forall_mem_append.mpr ⟨lw_r5, List.forall_mem_append.mpr ⟨lw_r6, List.forall_mem_append.mpr ⟨lw_r7, lw_r8⟩⟩⟩⟩⟩⟩⟩
def RX0 : String := "DustYard$Day"
def TX0 : u_T := fun k => match k with
  | _ => ("", "", "", false)
def tyX0 : Nat → FieldType := fun k => match k with
  | _ => .int
abbrev wsX00 : List Cond := u_ws RX0 TX0 0
theorem nmX0 : ∀ a, a < 0 → ∀ b, b < 0 → a ≠ b → (TX0 a).2.1 ≠ (TX0 b).2.1 := by decide +kernel
theorem tyX0_ok : ∀ k, k < 0 → parseFieldDescriptor (TX0 k).2.2.1 = some (tyX0 k) := by decide +kernel
abbrev cX0_pass : ByteArray := prog_2_method_2_code
def yX0_pass : MethodName := ⟨RX0, "pass", "(LDustYard$State;LDustYard$Law;IZ)I"⟩
abbrev cX0_fillBins : ByteArray := prog_2_method_3_code
def yX0_fillBins : MethodName := ⟨RX0, "fillBins", "(LDustYard$State;LDustYard$Law;)V"⟩
abbrev cX0_sendOut : ByteArray := prog_2_method_4_code
def yX0_sendOut : MethodName := ⟨RX0, "sendOut", "(LDustYard$State;LDustYard$Law;I)V"⟩
abbrev cX0_burnAndGnaw : ByteArray := prog_2_method_5_code
def yX0_burnAndGnaw : MethodName := ⟨RX0, "burnAndGnaw", "(LDustYard$State;)V"⟩
abbrev cX0_settleAll : ByteArray := prog_2_method_6_code
def yX0_settleAll : MethodName := ⟨RX0, "settleAll", "(LDustYard$State;)I"⟩
def RX1 : String := "DustYard$Deals"
def TX1 : u_T := fun k => match k with
  | 0 => ("DustYard$Deals", "with", "[I", true)
  | 1 => ("DustYard$Deals", "bestWith", "[I", true)
  | 2 => ("DustYard$Deals", "bestWorth", "I", false)
  | 3 => ("DustYard$Deals", "bestSet", "I", false)
  | _ => ("DustYard$Deals", "bestPays", "I", false)
def tyX1 : Nat → FieldType := fun k => match k with
  | 0 => .array .int
  | 1 => .array .int
  | 2 => .int
  | 3 => .int
  | _ => .int
abbrev wsX10 : List Cond := u_ws RX1 TX1 5
theorem nmX1 : ∀ a, a < 5 → ∀ b, b < 5 → a ≠ b → (TX1 a).2.1 ≠ (TX1 b).2.1 := by decide +kernel
theorem tyX1_ok : ∀ k, k < 5 → parseFieldDescriptor (TX1 k).2.2.1 = some (tyX1 k) := by decide +kernel
abbrev cX1_init : ByteArray := prog_3_method_1_code
def yX1_init : MethodName := ⟨RX1, "<init>", "()V"⟩
abbrev cX1_weigh : ByteArray := prog_3_method_2_code
def yX1_weigh : MethodName := ⟨RX1, "weigh", "(LDustYard$State;)V"⟩
abbrev cX1_worthOf : ByteArray := prog_3_method_3_code
def yX1_worthOf : MethodName := ⟨RX1, "worthOf", "(LDustYard$State;I)I"⟩
abbrev cX1_isEnough : ByteArray := prog_3_method_4_code
def yX1_isEnough : MethodName := ⟨RX1, "isEnough", "(LDustYard$State;I)Z"⟩
abbrev cX1_wantedWithin : ByteArray := prog_3_method_5_code
def yX1_wantedWithin : MethodName := ⟨RX1, "wantedWithin", "(LDustYard$State;III)I"⟩
abbrev cX1_putTwoByTwo : ByteArray := prog_3_method_6_code
def yX1_putTwoByTwo : MethodName := ⟨RX1, "putTwoByTwo", "(LDustYard$State;)V"⟩
abbrev cX1_putFrom : ByteArray := prog_3_method_7_code
def yX1_putFrom : MethodName := ⟨RX1, "putFrom", "(LDustYard$State;II)V"⟩
abbrev cX1_isPair : ByteArray := prog_3_method_8_code
def yX1_isPair : MethodName := ⟨RX1, "isPair", "(LDustYard$State;II)Z"⟩
def RX2 : String := "DustYard$Guesses"
def TX2 : u_T := fun k => match k with
  | 0 => ("DustYard$Guesses", "grains", "[I", true)
  | 1 => ("DustYard$Guesses", "numbers", "[I", true)
  | 2 => ("DustYard$Guesses", "parts", "[I", true)
  | _ => ("DustYard$Guesses", "rows", "I", false)
def tyX2 : Nat → FieldType := fun k => match k with
  | 0 => .array .int
  | 1 => .array .int
  | 2 => .array .int
  | _ => .int
abbrev wsX20 : List Cond := u_ws RX2 TX2 4
theorem nmX2 : ∀ a, a < 4 → ∀ b, b < 4 → a ≠ b → (TX2 a).2.1 ≠ (TX2 b).2.1 := by decide +kernel
theorem tyX2_ok : ∀ k, k < 4 → parseFieldDescriptor (TX2 k).2.2.1 = some (tyX2 k) := by decide +kernel
abbrev cX2_init : ByteArray := prog_4_method_1_code
def yX2_init : MethodName := ⟨RX2, "<init>", "()V"⟩
abbrev cX2_reads : ByteArray := prog_4_method_2_code
def yX2_reads : MethodName := ⟨RX2, "reads", "(LDustYard$Tape;I)Z"⟩
abbrev cX2_streetsThatFit : ByteArray := prog_4_method_3_code
def yX2_streetsThatFit : MethodName := ⟨RX2, "streetsThatFit", "(LDustYard$State;)I"⟩
abbrev cX2_likeliest : ByteArray := prog_4_method_4_code
def yX2_likeliest : MethodName := ⟨RX2, "likeliest", "(LDustYard$State;)I"⟩
abbrev cX2_grainToAsk : ByteArray := prog_4_method_5_code
def yX2_grainToAsk : MethodName := ⟨RX2, "grainToAsk", "(LDustYard$State;)I"⟩
abbrev cX2_wrongRows : ByteArray := prog_4_method_6_code
def yX2_wrongRows : MethodName := ⟨RX2, "wrongRows", "(LDustYard$State;I)I"⟩
abbrev cX2_pairsThatFit : ByteArray := prog_4_method_7_code
def yX2_pairsThatFit : MethodName := ⟨RX2, "pairsThatFit", "()I"⟩
abbrev cX2_firstPair : ByteArray := prog_4_method_8_code
def yX2_firstPair : MethodName := ⟨RX2, "firstPair", "()I"⟩
abbrev cX2_grainToSift : ByteArray := prog_4_method_9_code
def yX2_grainToSift : MethodName := ⟨RX2, "grainToSift", "()I"⟩
abbrev cX2_partPairs : ByteArray := prog_4_method_10_code
def yX2_partPairs : MethodName := ⟨RX2, "partPairs", "(I)V"⟩
abbrev cX2_isPairFit : ByteArray := prog_4_method_11_code
def yX2_isPairFit : MethodName := ⟨RX2, "isPairFit", "(II)Z"⟩
abbrev cX2_passes : ByteArray := prog_4_method_12_code
def yX2_passes : MethodName := ⟨RX2, "passes", "(III)I"⟩
abbrev cX2_clearParts : ByteArray := prog_4_method_13_code
def yX2_clearParts : MethodName := ⟨RX2, "clearParts", "()V"⟩
abbrev cX2_greatestPart : ByteArray := prog_4_method_14_code
def yX2_greatestPart : MethodName := ⟨RX2, "greatestPart", "()I"⟩
def RX3 : String := "DustYard$Law"
def TX3 : u_T := fun k => match k with
  | 0 => ("DustYard$Law", "lines", "I", false)
  | 1 => ("DustYard$Law", "used", "I", false)
  | 2 => ("DustYard$Law", "kinds", "[I", true)
  | 3 => ("DustYard$Law", "amounts", "[I", true)
  | 4 => ("DustYard$Law", "begins", "[I", true)
  | 5 => ("DustYard$Law", "ends", "[I", true)
  | 6 => ("DustYard$Law", "code", "[I", true)
  | _ => ("DustYard$Law", "stack", "[I", true)
def tyX3 : Nat → FieldType := fun k => match k with
  | 0 => .int
  | 1 => .int
  | 2 => .array .int
  | 3 => .array .int
  | 4 => .array .int
  | 5 => .array .int
  | 6 => .array .int
  | _ => .array .int
abbrev wsX30 : List Cond := u_ws RX3 TX3 8
theorem nmX3 : ∀ a, a < 8 → ∀ b, b < 8 → a ≠ b → (TX3 a).2.1 ≠ (TX3 b).2.1 := by decide +kernel
theorem tyX3_ok : ∀ k, k < 8 → parseFieldDescriptor (TX3 k).2.2.1 = some (tyX3 k) := by decide +kernel
abbrev cX3_init : ByteArray := prog_5_method_1_code
def yX3_init : MethodName := ⟨RX3, "<init>", "()V"⟩
abbrev cX3_copyFrom : ByteArray := prog_5_method_2_code
def yX3_copyFrom : MethodName := ⟨RX3, "copyFrom", "(LDustYard$Law;)V"⟩
abbrev cX3_clear : ByteArray := prog_5_method_3_code
def yX3_clear : MethodName := ⟨RX3, "clear", "()V"⟩
abbrev cX3_emit : ByteArray := prog_5_method_4_code
def yX3_emit : MethodName := ⟨RX3, "emit", "(II)V"⟩
abbrev cX3_addLine : ByteArray := prog_5_method_5_code
def yX3_addLine : MethodName := ⟨RX3, "addLine", "(III)V"⟩
abbrev cX3_fillsOf : ByteArray := prog_5_method_6_code
def yX3_fillsOf : MethodName := ⟨RX3, "fillsOf", "(LDustYard$State;I)I"⟩
abbrev cX3_tollOf : ByteArray := prog_5_method_7_code
def yX3_tollOf : MethodName := ⟨RX3, "tollOf", "(LDustYard$State;I)I"⟩
abbrev cX3_holds : ByteArray := prog_5_method_8_code
def yX3_holds : MethodName := ⟨RX3, "holds", "(ILDustYard$State;I)Z"⟩
abbrev cX3_valueOf : ByteArray := prog_5_method_9_code
def yX3_valueOf : MethodName := ⟨RX3, "valueOf", "(ILDustYard$State;I)I"⟩
abbrev cX3_join : ByteArray := prog_5_method_10_code
def yX3_join : MethodName := ⟨RX3, "join", "(III)I"⟩
def RX4 : String := "DustYard$Log"
def TX4 : u_T := fun k => match k with
  | 0 => ("DustYard$Log", "cells", "[I", true)
  | 1 => ("DustYard$Log", "size", "I", false)
  | _ => ("DustYard$Log", "next", "I", false)
def tyX4 : Nat → FieldType := fun k => match k with
  | 0 => .array .int
  | 1 => .int
  | _ => .int
abbrev wsX40 : List Cond := u_ws RX4 TX4 3
theorem nmX4 : ∀ a, a < 3 → ∀ b, b < 3 → a ≠ b → (TX4 a).2.1 ≠ (TX4 b).2.1 := by decide +kernel
theorem tyX4_ok : ∀ k, k < 3 → parseFieldDescriptor (TX4 k).2.2.1 = some (tyX4 k) := by decide +kernel
abbrev cX4_init : ByteArray := prog_6_method_1_code
def yX4_init : MethodName := ⟨RX4, "<init>", "()V"⟩
abbrev cX4_copyFrom : ByteArray := prog_6_method_2_code
def yX4_copyFrom : MethodName := ⟨RX4, "copyFrom", "(LDustYard$Log;)V"⟩
abbrev cX4_add : ByteArray := prog_6_method_3_code
def yX4_add : MethodName := ⟨RX4, "add", "(IIIII)V"⟩
abbrev cX4_cell : ByteArray := prog_6_method_4_code
def yX4_cell : MethodName := ⟨RX4, "cell", "(II)I"⟩
abbrev cX4_rowsOf : ByteArray := prog_6_method_5_code
def yX4_rowsOf : MethodName := ⟨RX4, "rowsOf", "(I)I"⟩
abbrev cX4_latestDayOf : ByteArray := prog_6_method_6_code
def yX4_latestDayOf : MethodName := ⟨RX4, "latestDayOf", "(I)I"⟩
def RX5 : String := "DustYard$Memory"
def TX5 : u_T := fun k => match k with
  | 0 => ("DustYard$Memory", "states", "[LDustYard$State;", true)
  | 1 => ("DustYard$Memory", "size", "I", false)
  | _ => ("DustYard$Memory", "next", "I", false)
def tyX5 : Nat → FieldType := fun k => match k with
  | 0 => .array (.object "DustYard$State")
  | 1 => .int
  | _ => .int
abbrev wsX50 : List Cond := u_ws RX5 TX5 3
theorem nmX5 : ∀ a, a < 3 → ∀ b, b < 3 → a ≠ b → (TX5 a).2.1 ≠ (TX5 b).2.1 := by decide +kernel
theorem tyX5_ok : ∀ k, k < 3 → parseFieldDescriptor (TX5 k).2.2.1 = some (tyX5 k) := by decide +kernel
abbrev cX5_init : ByteArray := prog_7_method_1_code
def yX5_init : MethodName := ⟨RX5, "<init>", "()V"⟩
abbrev cX5_keep : ByteArray := prog_7_method_2_code
def yX5_keep : MethodName := ⟨RX5, "keep", "(LDustYard$State;)V"⟩
abbrev cX5_undoInto : ByteArray := prog_7_method_3_code
def yX5_undoInto : MethodName := ⟨RX5, "undoInto", "(LDustYard$State;)Z"⟩
abbrev cX5_forget : ByteArray := prog_7_method_4_code
def yX5_forget : MethodName := ⟨RX5, "forget", "()V"⟩
def RX6 : String := "DustYard$Reader"
def TX6 : u_T := fun k => match k with
  | 0 => ("DustYard$Reader", "tape", "LDustYard$Tape;", true)
  | 1 => ("DustYard$Reader", "yardDraft", "LDustYard$State;", true)
  | _ => ("DustYard$Reader", "lawDraft", "LDustYard$Law;", true)
def tyX6 : Nat → FieldType := fun k => match k with
  | 0 => .object "DustYard$Tape"
  | 1 => .object "DustYard$State"
  | _ => .object "DustYard$Law"
abbrev wsX60 : List Cond := u_ws RX6 TX6 3
theorem nmX6 : ∀ a, a < 3 → ∀ b, b < 3 → a ≠ b → (TX6 a).2.1 ≠ (TX6 b).2.1 := by decide +kernel
theorem tyX6_ok : ∀ k, k < 3 → parseFieldDescriptor (TX6 k).2.2.1 = some (tyX6 k) := by decide +kernel
abbrev cX6_init : ByteArray := prog_8_method_1_code
def yX6_init : MethodName := ⟨RX6, "<init>", "(LDustYard$Tape;LDustYard$State;LDustYard$Law;)V"⟩
abbrev cX6_reads : ByteArray := prog_8_method_2_code
def yX6_reads : MethodName := ⟨RX6, "reads", "(IZ)Z"⟩
abbrev cX6_readsYardLine : ByteArray := prog_8_method_3_code
def yX6_readsYardLine : MethodName := ⟨RX6, "readsYardLine", "()Z"⟩
abbrev cX6_readsStreet : ByteArray := prog_8_method_4_code
def yX6_readsStreet : MethodName := ⟨RX6, "readsStreet", "()Z"⟩
abbrev cX6_readsCart : ByteArray := prog_8_method_5_code
def yX6_readsCart : MethodName := ⟨RX6, "readsCart", "()Z"⟩
abbrev cX6_readsSieve : ByteArray := prog_8_method_6_code
def yX6_readsSieve : MethodName := ⟨RX6, "readsSieve", "()Z"⟩
abbrev cX6_readsContract : ByteArray := prog_8_method_7_code
def yX6_readsContract : MethodName := ⟨RX6, "readsContract", "()Z"⟩
abbrev cX6_readsHeap : ByteArray := prog_8_method_8_code
def yX6_readsHeap : MethodName := ⟨RX6, "readsHeap", "()Z"⟩
abbrev cX6_readsRest : ByteArray := prog_8_method_9_code
def yX6_readsRest : MethodName := ⟨RX6, "readsRest", "()Z"⟩
abbrev cX6_readsLawLine : ByteArray := prog_8_method_10_code
def yX6_readsLawLine : MethodName := ⟨RX6, "readsLawLine", "()Z"⟩
abbrev cX6_readsAny : ByteArray := prog_8_method_11_code
def yX6_readsAny : MethodName := ⟨RX6, "readsAny", "(I)Z"⟩
abbrev cX6_readsAll : ByteArray := prog_8_method_12_code
def yX6_readsAll : MethodName := ⟨RX6, "readsAll", "(I)Z"⟩
abbrev cX6_readsAtom : ByteArray := prog_8_method_13_code
def yX6_readsAtom : MethodName := ⟨RX6, "readsAtom", "(I)Z"⟩
abbrev cX6_readsSum : ByteArray := prog_8_method_14_code
def yX6_readsSum : MethodName := ⟨RX6, "readsSum", "()Z"⟩
abbrev cX6_readsPart : ByteArray := prog_8_method_15_code
def yX6_readsPart : MethodName := ⟨RX6, "readsPart", "()Z"⟩
def RX7 : String := "DustYard$Rounds"
def TX7 : u_T := fun k => match k with
  | 0 => ("DustYard$Rounds", "whole", "[I", true)
  | 1 => ("DustYard$Rounds", "upTo", "[I", true)
  | 2 => ("DustYard$Rounds", "sets", "[I", true)
  | _ => ("DustYard$Rounds", "isMeasured", "Z", false)
def tyX7 : Nat → FieldType := fun k => match k with
  | 0 => .array .int
  | 1 => .array .int
  | 2 => .array .int
  | _ => .boolean
abbrev wsX70 : List Cond := u_ws RX7 TX7 4
theorem nmX7 : ∀ a, a < 4 → ∀ b, b < 4 → a ≠ b → (TX7 a).2.1 ≠ (TX7 b).2.1 := by decide +kernel
theorem tyX7_ok : ∀ k, k < 4 → parseFieldDescriptor (TX7 k).2.2.1 = some (tyX7 k) := by decide +kernel
abbrev cX7_init : ByteArray := prog_9_method_1_code
def yX7_init : MethodName := ⟨RX7, "<init>", "()V"⟩
abbrev cX7_forget : ByteArray := prog_9_method_2_code
def yX7_forget : MethodName := ⟨RX7, "forget", "()V"⟩
abbrev cX7_leastWay : ByteArray := prog_9_method_3_code
def yX7_leastWay : MethodName := ⟨RX7, "leastWay", "(LDustYard$State;I)I"⟩
abbrev cX7_bestSet : ByteArray := prog_9_method_4_code
def yX7_bestSet : MethodName := ⟨RX7, "bestSet", "(LDustYard$State;I)I"⟩
abbrev cX7_fewestSets : ByteArray := prog_9_method_5_code
def yX7_fewestSets : MethodName := ⟨RX7, "fewestSets", "(LDustYard$State;I)I"⟩
abbrev cX7_measure : ByteArray := prog_9_method_6_code
def yX7_measure : MethodName := ⟨RX7, "measure", "(LDustYard$State;)V"⟩
abbrev cX7_leastUpTo : ByteArray := prog_9_method_7_code
def yX7_leastUpTo : MethodName := ⟨RX7, "leastUpTo", "(LDustYard$State;II)I"⟩
def RX8 : String := "DustYard$State"
def TX8 : u_T := fun k => match k with
  | 0 => ("DustYard$State", "placeRows", "[I", true)
  | 1 => ("DustYard$State", "mixRows", "[I", true)
  | 2 => ("DustYard$State", "cartRows", "[I", true)
  | 3 => ("DustYard$State", "meshRow", "[I", true)
  | 4 => ("DustYard$State", "dealRows", "[I", true)
  | 5 => ("DustYard$State", "heapRow", "[I", true)
  | 6 => ("DustYard$State", "rows", "LDustYard$Log;", true)
  | 7 => ("DustYard$State", "streets", "I", false)
  | 8 => ("DustYard$State", "carts", "I", false)
  | 9 => ("DustYard$State", "sieves", "I", false)
  | 10 => ("DustYard$State", "contracts", "I", false)
  | 11 => ("DustYard$State", "texts", "I", false)
  | 12 => ("DustYard$State", "fire", "I", false)
  | 13 => ("DustYard$State", "rats", "I", false)
  | 14 => ("DustYard$State", "till", "I", false)
  | 15 => ("DustYard$State", "day", "I", false)
  | 16 => ("DustYard$State", "smoke", "Z", false)
  | _ => ("DustYard$State", "seed", "I", false)
def tyX8 : Nat → FieldType := fun k => match k with
  | 0 => .array .int
  | 1 => .array .int
  | 2 => .array .int
  | 3 => .array .int
  | 4 => .array .int
  | 5 => .array .int
  | 6 => .object "DustYard$Log"
  | 7 => .int
  | 8 => .int
  | 9 => .int
  | 10 => .int
  | 11 => .int
  | 12 => .int
  | 13 => .int
  | 14 => .int
  | 15 => .int
  | 16 => .boolean
  | _ => .int
abbrev wsX80 : List Cond := u_ws RX8 TX8 18
theorem nmX8 : ∀ a, a < 18 → ∀ b, b < 18 → a ≠ b → (TX8 a).2.1 ≠ (TX8 b).2.1 := by decide +kernel
theorem tyX8_ok : ∀ k, k < 18 → parseFieldDescriptor (TX8 k).2.2.1 = some (tyX8 k) := by decide +kernel
abbrev cX8_init : ByteArray := prog_10_method_1_code
def yX8_init : MethodName := ⟨RX8, "<init>", "()V"⟩
abbrev cX8_copyFrom : ByteArray := prog_10_method_2_code
def yX8_copyFrom : MethodName := ⟨RX8, "copyFrom", "(LDustYard$State;)V"⟩
abbrev cX8_addStreet : ByteArray := prog_10_method_3_code
def yX8_addStreet : MethodName := ⟨RX8, "addStreet", "(III)I"⟩
abbrev cX8_addCart : ByteArray := prog_10_method_4_code
def yX8_addCart : MethodName := ⟨RX8, "addCart", "(II)I"⟩
abbrev cX8_addSieve : ByteArray := prog_10_method_5_code
def yX8_addSieve : MethodName := ⟨RX8, "addSieve", "(I)I"⟩
abbrev cX8_addContract : ByteArray := prog_10_method_6_code
def yX8_addContract : MethodName := ⟨RX8, "addContract", "(IIII)I"⟩
abbrev cX8_xOf : ByteArray := prog_10_method_7_code
def yX8_xOf : MethodName := ⟨RX8, "xOf", "(I)I"⟩
abbrev cX8_yOf : ByteArray := prog_10_method_8_code
def yX8_yOf : MethodName := ⟨RX8, "yOf", "(I)I"⟩
abbrev cX8_waitsOf : ByteArray := prog_10_method_9_code
def yX8_waitsOf : MethodName := ⟨RX8, "waitsOf", "(I)I"⟩
abbrev cX8_setWaits : ByteArray := prog_10_method_10_code
def yX8_setWaits : MethodName := ⟨RX8, "setWaits", "(II)V"⟩
abbrev cX8_mixOf : ByteArray := prog_10_method_11_code
def yX8_mixOf : MethodName := ⟨RX8, "mixOf", "(II)I"⟩
abbrev cX8_setMix : ByteArray := prog_10_method_12_code
def yX8_setMix : MethodName := ⟨RX8, "setMix", "(III)V"⟩
abbrev cX8_loadOf : ByteArray := prog_10_method_13_code
def yX8_loadOf : MethodName := ⟨RX8, "loadOf", "(I)I"⟩
abbrev cX8_isAlike : ByteArray := prog_10_method_14_code
def yX8_isAlike : MethodName := ⟨RX8, "isAlike", "(II)Z"⟩
abbrev cX8_distance : ByteArray := prog_10_method_15_code
def yX8_distance : MethodName := ⟨RX8, "distance", "(II)I"⟩
abbrev cX8_waitingSet : ByteArray := prog_10_method_16_code
def yX8_waitingSet : MethodName := ⟨RX8, "waitingSet", "()I"⟩
abbrev cX8_waitsOfSet : ByteArray := prog_10_method_17_code
def yX8_waitsOfSet : MethodName := ⟨RX8, "waitsOfSet", "(I)I"⟩
abbrev cX8_holdOf : ByteArray := prog_10_method_18_code
def yX8_holdOf : MethodName := ⟨RX8, "holdOf", "(I)I"⟩
abbrev cX8_goesOf : ByteArray := prog_10_method_19_code
def yX8_goesOf : MethodName := ⟨RX8, "goesOf", "(I)I"⟩
abbrev cX8_isReached : ByteArray := prog_10_method_20_code
def yX8_isReached : MethodName := ⟨RX8, "isReached", "(II)Z"⟩
abbrev cX8_fetch : ByteArray := prog_10_method_21_code
def yX8_fetch : MethodName := ⟨RX8, "fetch", "(II)V"⟩
abbrev cX8_heapSum : ByteArray := prog_10_method_22_code
def yX8_heapSum : MethodName := ⟨RX8, "heapSum", "(II)I"⟩
abbrev cX8_cutsOf : ByteArray := prog_10_method_23_code
def yX8_cutsOf : MethodName := ⟨RX8, "cutsOf", "(I)I"⟩
abbrev cX8_dealOf : ByteArray := prog_10_method_24_code
def yX8_dealOf : MethodName := ⟨RX8, "dealOf", "(II)I"⟩
abbrev cX8_lowOf : ByteArray := prog_10_method_25_code
def yX8_lowOf : MethodName := ⟨RX8, "lowOf", "(I)I"⟩
abbrev cX8_highOf : ByteArray := prog_10_method_26_code
def yX8_highOf : MethodName := ⟨RX8, "highOf", "(I)I"⟩
abbrev cX8_manyOf : ByteArray := prog_10_method_27_code
def yX8_manyOf : MethodName := ⟨RX8, "manyOf", "(I)I"⟩
abbrev cX8_paysOf : ByteArray := prog_10_method_28_code
def yX8_paysOf : MethodName := ⟨RX8, "paysOf", "(I)I"⟩
abbrev cX8_priceOf : ByteArray := prog_10_method_29_code
def yX8_priceOf : MethodName := ⟨RX8, "priceOf", "(I)I"⟩
abbrev cX8_isOpen : ByteArray := prog_10_method_30_code
def yX8_isOpen : MethodName := ⟨RX8, "isOpen", "(I)Z"⟩
abbrev cX8_close : ByteArray := prog_10_method_31_code
def yX8_close : MethodName := ⟨RX8, "close", "(I)V"⟩
abbrev cX8_canSettle : ByteArray := prog_10_method_32_code
def yX8_canSettle : MethodName := ⟨RX8, "canSettle", "(I)Z"⟩
abbrev cX8_settle : ByteArray := prog_10_method_33_code
def yX8_settle : MethodName := ⟨RX8, "settle", "(II)V"⟩
abbrev cX8_draw : ByteArray := prog_10_method_34_code
def yX8_draw : MethodName := ⟨RX8, "draw", "()I"⟩
def RX9 : String := "DustYard$Tape"
def TX9 : u_T := fun k => match k with
  | 0 => ("DustYard$Tape", "bytes", "[I", true)
  | 1 => ("DustYard$Tape", "begins", "[I", true)
  | 2 => ("DustYard$Tape", "ends", "[I", true)
  | 3 => ("DustYard$Tape", "size", "I", false)
  | 4 => ("DustYard$Tape", "things", "I", false)
  | _ => ("DustYard$Tape", "next", "I", false)
def tyX9 : Nat → FieldType := fun k => match k with
  | 0 => .array .int
  | 1 => .array .int
  | 2 => .array .int
  | 3 => .int
  | 4 => .int
  | _ => .int
abbrev wsX90 : List Cond := u_ws RX9 TX9 6
theorem nmX9 : ∀ a, a < 6 → ∀ b, b < 6 → a ≠ b → (TX9 a).2.1 ≠ (TX9 b).2.1 := by decide +kernel
theorem tyX9_ok : ∀ k, k < 6 → parseFieldDescriptor (TX9 k).2.2.1 = some (tyX9 k) := by decide +kernel
abbrev cX9_init : ByteArray := prog_11_method_1_code
def yX9_init : MethodName := ⟨RX9, "<init>", "()V"⟩
abbrev cX9_hasRoom : ByteArray := prog_11_method_2_code
def yX9_hasRoom : MethodName := ⟨RX9, "hasRoom", "()Z"⟩
abbrev cX9_append : ByteArray := prog_11_method_3_code
def yX9_append : MethodName := ⟨RX9, "append", "(I)V"⟩
abbrev cX9_cut : ByteArray := prog_11_method_4_code
def yX9_cut : MethodName := ⟨RX9, "cut", "(I)Z"⟩
abbrev cX9_clear : ByteArray := prog_11_method_5_code
def yX9_clear : MethodName := ⟨RX9, "clear", "()V"⟩
abbrev cX9_partIntoThings : ByteArray := prog_11_method_6_code
def yX9_partIntoThings : MethodName := ⟨RX9, "partIntoThings", "()V"⟩
abbrev cX9_kindOf : ByteArray := prog_11_method_7_code
def yX9_kindOf : MethodName := ⟨RX9, "kindOf", "(I)I"⟩
abbrev cX9_wrongAt : ByteArray := prog_11_method_8_code
def yX9_wrongAt : MethodName := ⟨RX9, "wrongAt", "()I"⟩
abbrev cX9_atEnd : ByteArray := prog_11_method_9_code
def yX9_atEnd : MethodName := ⟨RX9, "atEnd", "()Z"⟩
abbrev cX9_refuse : ByteArray := prog_11_method_10_code
def yX9_refuse : MethodName := ⟨RX9, "refuse", "()Z"⟩
abbrev cX9_takesSign : ByteArray := prog_11_method_11_code
def yX9_takesSign : MethodName := ⟨RX9, "takesSign", "(C)Z"⟩
abbrev cX9_takesWord : ByteArray := prog_11_method_12_code
def yX9_takesWord : MethodName := ⟨RX9, "takesWord", "(Ljava/lang/String;)Z"⟩
abbrev cX9_takeNumber : ByteArray := prog_11_method_13_code
def yX9_takeNumber : MethodName := ⟨RX9, "takeNumber", "(II)I"⟩
abbrev cX9_takeFigures : ByteArray := prog_11_method_14_code
def yX9_takeFigures : MethodName := ⟨RX9, "takeFigures", "(I)I"⟩
def RX10 : String := "DustYard"
def TX10 : u_T := fun k => match k with
  | 0 => ("DustYard", "tape", "LDustYard$Tape;", true)
  | 1 => ("DustYard", "now", "LDustYard$State;", true)
  | 2 => ("DustYard", "draft", "LDustYard$State;", true)
  | 3 => ("DustYard", "kept", "LDustYard$State;", true)
  | 4 => ("DustYard", "laws", "LDustYard$Law;", true)
  | 5 => ("DustYard", "lawDraft", "LDustYard$Law;", true)
  | 6 => ("DustYard", "lawKept", "LDustYard$Law;", true)
  | 7 => ("DustYard", "memory", "LDustYard$Memory;", true)
  | 8 => ("DustYard", "reader", "LDustYard$Reader;", true)
  | 9 => ("DustYard", "rounds", "LDustYard$Rounds;", true)
  | 10 => ("DustYard", "deals", "LDustYard$Deals;", true)
  | 11 => ("DustYard", "guesses", "LDustYard$Guesses;", true)
  | 12 => ("DustYard", "isKept", "Z", false)
  | _ => ("DustYard", "wrongByte", "I", false)
def tyX10 : Nat → FieldType := fun k => match k with
  | 0 => .object "DustYard$Tape"
  | 1 => .object "DustYard$State"
  | 2 => .object "DustYard$State"
  | 3 => .object "DustYard$State"
  | 4 => .object "DustYard$Law"
  | 5 => .object "DustYard$Law"
  | 6 => .object "DustYard$Law"
  | 7 => .object "DustYard$Memory"
  | 8 => .object "DustYard$Reader"
  | 9 => .object "DustYard$Rounds"
  | 10 => .object "DustYard$Deals"
  | 11 => .object "DustYard$Guesses"
  | 12 => .boolean
  | _ => .int
abbrev wsX100 : List Cond := u_ws RX10 TX10 14
theorem nmX10 : ∀ a, a < 14 → ∀ b, b < 14 → a ≠ b → (TX10 a).2.1 ≠ (TX10 b).2.1 := by decide +kernel
theorem tyX10_ok : ∀ k, k < 14 → parseFieldDescriptor (TX10 k).2.2.1 = some (tyX10 k) := by decide +kernel
abbrev cX10_init : ByteArray := prog_1_method_1_code
def yX10_init : MethodName := ⟨RX10, "<init>", "()V"⟩
abbrev cX10_feed : ByteArray := prog_1_method_2_code
def yX10_feed : MethodName := ⟨RX10, "feed", "(IIIII)I"⟩
abbrev cX10_end : ByteArray := prog_1_method_3_code
def yX10_end : MethodName := ⟨RX10, "end", "(I)Z"⟩
abbrev cX10_yard : ByteArray := prog_1_method_4_code
def yX10_yard : MethodName := ⟨RX10, "yard", "()I"⟩
abbrev cX10_law : ByteArray := prog_1_method_5_code
def yX10_law : MethodName := ⟨RX10, "law", "()I"⟩
abbrev cX10_fault : ByteArray := prog_1_method_6_code
def yX10_fault : MethodName := ⟨RX10, "fault", "()I"⟩
abbrev cX10_street : ByteArray := prog_1_method_7_code
def yX10_street : MethodName := ⟨RX10, "street", "(II)I"⟩
abbrev cX10_mix : ByteArray := prog_1_method_8_code
def yX10_mix : MethodName := ⟨RX10, "mix", "(II)I"⟩
abbrev cX10_cart : ByteArray := prog_1_method_9_code
def yX10_cart : MethodName := ⟨RX10, "cart", "(II)I"⟩
abbrev cX10_mesh : ByteArray := prog_1_method_10_code
def yX10_mesh : MethodName := ⟨RX10, "mesh", "(I)I"⟩
abbrev cX10_contract : ByteArray := prog_1_method_11_code
def yX10_contract : MethodName := ⟨RX10, "contract", "(II)I"⟩
abbrev cX10_heap : ByteArray := prog_1_method_12_code
def yX10_heap : MethodName := ⟨RX10, "heap", "(I)I"⟩
abbrev cX10_way : ByteArray := prog_1_method_13_code
def yX10_way : MethodName := ⟨RX10, "way", "(II)I"⟩
abbrev cX10_days : ByteArray := prog_1_method_14_code
def yX10_days : MethodName := ⟨RX10, "days", "(I)I"⟩
abbrev cX10_tip : ByteArray := prog_1_method_15_code
def yX10_tip : MethodName := ⟨RX10, "tip", "(I)I"⟩
abbrev cX10_buy : ByteArray := prog_1_method_16_code
def yX10_buy : MethodName := ⟨RX10, "buy", "(I)I"⟩
abbrev cX10_take : ByteArray := prog_1_method_17_code
def yX10_take : MethodName := ⟨RX10, "take", "(IIII)I"⟩
abbrev cX10_drop : ByteArray := prog_1_method_18_code
def yX10_drop : MethodName := ⟨RX10, "drop", "(I)V"⟩
abbrev cX10_hire : ByteArray := prog_1_method_19_code
def yX10_hire : MethodName := ⟨RX10, "hire", "(II)I"⟩
abbrev cX10_lay : ByteArray := prog_1_method_20_code
def yX10_lay : MethodName := ⟨RX10, "lay", "(III)I"⟩
abbrev cX10_douse : ByteArray := prog_1_method_21_code
def yX10_douse : MethodName := ⟨RX10, "douse", "()Z"⟩
abbrev cX10_fill : ByteArray := prog_1_method_22_code
def yX10_fill : MethodName := ⟨RX10, "fill", "(I)I"⟩
abbrev cX10_classes : ByteArray := prog_1_method_23_code
def yX10_classes : MethodName := ⟨RX10, "classes", "(I)I"⟩
abbrev cX10_classOf : ByteArray := prog_1_method_24_code
def yX10_classOf : MethodName := ⟨RX10, "classOf", "(II)I"⟩
abbrev cX10_held : ByteArray := prog_1_method_25_code
def yX10_held : MethodName := ⟨RX10, "held", "(II)I"⟩
abbrev cX10_fewest : ByteArray := prog_1_method_26_code
def yX10_fewest : MethodName := ⟨RX10, "fewest", "()I"⟩
abbrev cX10_clean : ByteArray := prog_1_method_27_code
def yX10_clean : MethodName := ⟨RX10, "clean", "(II)I"⟩
abbrev cX10_round : ByteArray := prog_1_method_28_code
def yX10_round : MethodName := ⟨RX10, "round", "()I"⟩
abbrev cX10_trips : ByteArray := prog_1_method_29_code
def yX10_trips : MethodName := ⟨RX10, "trips", "(I)I"⟩
abbrev cX10_worth : ByteArray := prog_1_method_30_code
def yX10_worth : MethodName := ⟨RX10, "worth", "()I"⟩
abbrev cX10_serves : ByteArray := prog_1_method_31_code
def yX10_serves : MethodName := ⟨RX10, "serves", "()I"⟩
abbrev cX10_blend : ByteArray := prog_1_method_32_code
def yX10_blend : MethodName := ⟨RX10, "blend", "(IIII)I"⟩
abbrev cX10_from : ByteArray := prog_1_method_33_code
def yX10_from : MethodName := ⟨RX10, "from", "()I"⟩
abbrev cX10_likely : ByteArray := prog_1_method_34_code
def yX10_likely : MethodName := ⟨RX10, "likely", "()I"⟩
abbrev cX10_ask : ByteArray := prog_1_method_35_code
def yX10_ask : MethodName := ⟨RX10, "ask", "()I"⟩
abbrev cX10_meshes : ByteArray := prog_1_method_36_code
def yX10_meshes : MethodName := ⟨RX10, "meshes", "(Z)I"⟩
abbrev cX10_sift : ByteArray := prog_1_method_37_code
def yX10_sift : MethodName := ⟨RX10, "sift", "()I"⟩
abbrev cX10_ends : ByteArray := prog_1_method_38_code
def yX10_ends : MethodName := ⟨RX10, "ends", "()I"⟩
abbrev cX10_side : ByteArray := prog_1_method_39_code
def yX10_side : MethodName := ⟨RX10, "side", "()I"⟩
abbrev cX10_pairs : ByteArray := prog_1_method_40_code
def yX10_pairs : MethodName := ⟨RX10, "pairs", "(I)I"⟩
abbrev cX10_share : ByteArray := prog_1_method_41_code
def yX10_share : MethodName := ⟨RX10, "share", "(II)I"⟩
abbrev cX10_rests : ByteArray := prog_1_method_42_code
def yX10_rests : MethodName := ⟨RX10, "rests", "(I)I"⟩
abbrev cX10_odds : ByteArray := prog_1_method_43_code
def yX10_odds : MethodName := ⟨RX10, "odds", "(II)I"⟩
abbrev cX10_most : ByteArray := prog_1_method_44_code
def yX10_most : MethodName := ⟨RX10, "most", "(I)I"⟩
abbrev cX10_open : ByteArray := prog_1_method_45_code
def yX10_open : MethodName := ⟨RX10, "open", "(Z)I"⟩
abbrev cX10_twins : ByteArray := prog_1_method_46_code
def yX10_twins : MethodName := ⟨RX10, "twins", "()I"⟩
abbrev cX10_wanted : ByteArray := prog_1_method_47_code
def yX10_wanted : MethodName := ⟨RX10, "wanted", "(I)I"⟩
abbrev cX10_ahead : ByteArray := prog_1_method_48_code
def yX10_ahead : MethodName := ⟨RX10, "ahead", "(II)I"⟩
abbrev cX10_trial : ByteArray := prog_1_method_49_code
def yX10_trial : MethodName := ⟨RX10, "trial", "(IZ)I"⟩
abbrev cX10_span : ByteArray := prog_1_method_50_code
def yX10_span : MethodName := ⟨RX10, "span", "(IZ)I"⟩
abbrev cX10_led : ByteArray := prog_1_method_51_code
def yX10_led : MethodName := ⟨RX10, "led", "(IZ)I"⟩
abbrev cX10_log : ByteArray := prog_1_method_52_code
def yX10_log : MethodName := ⟨RX10, "log", "(II)I"⟩
abbrev cX10_seed : ByteArray := prog_1_method_53_code
def yX10_seed : MethodName := ⟨RX10, "seed", "(I)I"⟩
abbrev cX10_undo : ByteArray := prog_1_method_54_code
def yX10_undo : MethodName := ⟨RX10, "undo", "()Z"⟩
abbrev cX10_image : ByteArray := prog_1_method_55_code
def yX10_image : MethodName := ⟨RX10, "image", "()V"⟩
abbrev cX10_back : ByteArray := prog_1_method_56_code
def yX10_back : MethodName := ⟨RX10, "back", "()Z"⟩
abbrev cX10_count : ByteArray := prog_1_method_57_code
def yX10_count : MethodName := ⟨RX10, "count", "(I)I"⟩
abbrev cX10_needStreet : ByteArray := prog_1_method_58_code
def yX10_needStreet : MethodName := ⟨RX10, "needStreet", "(I)V"⟩
abbrev cX10_needCart : ByteArray := prog_1_method_59_code
def yX10_needCart : MethodName := ⟨RX10, "needCart", "(I)V"⟩
abbrev cX10_needContract : ByteArray := prog_1_method_60_code
def yX10_needContract : MethodName := ⟨RX10, "needContract", "(I)V"⟩
abbrev cX10_needGrain : ByteArray := prog_1_method_61_code
def yX10_needGrain : MethodName := ⟨RX10, "needGrain", "(I)V"⟩
abbrev cX10_needTrialDays : ByteArray := prog_1_method_62_code
def yX10_needTrialDays : MethodName := ⟨RX10, "needTrialDays", "(I)V"⟩
abbrev cX10_needRows : ByteArray := prog_1_method_63_code
def yX10_needRows : MethodName := ⟨RX10, "needRows", "(I)V"⟩
abbrev cX10_partOf : ByteArray := prog_1_method_64_code
def yX10_partOf : MethodName := ⟨RX10, "partOf", "(I)I"⟩
abbrev cX10_reachedBy : ByteArray := prog_1_method_65_code
def yX10_reachedBy : MethodName := ⟨RX10, "reachedBy", "(I)I"⟩
abbrev cX10_isCut : ByteArray := prog_1_method_66_code
def yX10_isCut : MethodName := ⟨RX10, "isCut", "(II)Z"⟩
abbrev cX10_runLow : ByteArray := prog_1_method_67_code
def yX10_runLow : MethodName := ⟨RX10, "runLow", "(II)I"⟩
abbrev cX10_runHigh : ByteArray := prog_1_method_68_code
def yX10_runHigh : MethodName := ⟨RX10, "runHigh", "(II)I"⟩
abbrev cX10_cutsNeeded : ByteArray := prog_1_method_69_code
def yX10_cutsNeeded : MethodName := ⟨RX10, "cutsNeeded", "()I"⟩
abbrev cX10_streetsTold : ByteArray := prog_1_method_70_code
def yX10_streetsTold : MethodName := ⟨RX10, "streetsTold", "()I"⟩
abbrev cX10_lead : ByteArray := prog_1_method_71_code
def yX10_lead : MethodName := ⟨RX10, "lead", "(II)I"⟩
abbrev cX10_nextForShovel : ByteArray := prog_1_method_72_code
def yX10_nextForShovel : MethodName := ⟨RX10, "nextForShovel", "([I)I"⟩
abbrev cX10_carterHas : ByteArray := prog_1_method_73_code
def yX10_carterHas : MethodName := ⟨RX10, "carterHas", "(II)I"⟩
abbrev cX10_waysOfFire : ByteArray := prog_1_method_74_code
def yX10_waysOfFire : MethodName := ⟨RX10, "waysOfFire", "(II)J"⟩
abbrev cX10_fullest : ByteArray := prog_1_method_75_code
def yX10_fullest : MethodName := ⟨RX10, "fullest", "()I"⟩
abbrev cX10_farthest : ByteArray := prog_1_method_76_code
def yX10_farthest : MethodName := ⟨RX10, "farthest", "()I"⟩
abbrev cX10_richest : ByteArray := prog_1_method_77_code
def yX10_richest : MethodName := ⟨RX10, "richest", "()I"⟩
def RX11 : String := "DustYardModel"
def TX11 : u_T := fun k => match k with
  | 0 => ("DustYardModel", "thrown", "I", false)
  | 1 => ("DustYardModel", "m", "[I", true)
  | 2 => ("DustYardModel", "kept", "[I", true)
  | 3 => ("DustYardModel", "hasImage", "Z", false)
  | 4 => ("DustYardModel", "aside", "[I", true)
  | 5 => ("DustYardModel", "acts", "[I", true)
  | 6 => ("DustYardModel", "acted", "I", false)
  | 7 => ("DustYardModel", "tape", "[I", true)
  | 8 => ("DustYardModel", "taped", "I", false)
  | 9 => ("DustYardModel", "base", "I", false)
  | 10 => ("DustYardModel", "end", "I", false)
  | 11 => ("DustYardModel", "at", "I", false)
  | 12 => ("DustYardModel", "fault", "I", false)
  | 13 => ("DustYardModel", "deep", "I", false)
  | 14 => ("DustYardModel", "fact", "[I", true)
  | 15 => ("DustYardModel", "isFar", "Z", false)
  | 16 => ("DustYardModel", "fills", "I", false)
  | 17 => ("DustYardModel", "toll", "I", false)
  | 18 => ("DustYardModel", "routes", "[I", true)
  | 19 => ("DustYardModel", "loops", "[I", true)
  | 20 => ("DustYardModel", "tripped", "[I", true)
  | 21 => ("DustYardModel", "best", "[I", true)
  | 22 => ("DustYardModel", "had", "[I", true)
  | 23 => ("DustYardModel", "leads", "[I", true)
  | _ => ("DustYardModel", "wrongs", "[I", true)
def tyX11 : Nat → FieldType := fun k => match k with
  | 0 => .int
  | 1 => .array .int
  | 2 => .array .int
  | 3 => .boolean
  | 4 => .array .int
  | 5 => .array .int
  | 6 => .int
  | 7 => .array .int
  | 8 => .int
  | 9 => .int
  | 10 => .int
  | 11 => .int
  | 12 => .int
  | 13 => .int
  | 14 => .array .int
  | 15 => .boolean
  | 16 => .int
  | 17 => .int
  | 18 => .array .int
  | 19 => .array .int
  | 20 => .array .int
  | 21 => .array .int
  | 22 => .array .int
  | 23 => .array .int
  | _ => .array .int
abbrev wsX110 : List Cond := u_ws RX11 TX11 25
theorem nmX11 : ∀ a, a < 25 → ∀ b, b < 25 → a ≠ b → (TX11 a).2.1 ≠ (TX11 b).2.1 := by decide +kernel
theorem tyX11_ok : ∀ k, k < 25 → parseFieldDescriptor (TX11 k).2.2.1 = some (tyX11 k) := by decide +kernel
abbrev cX11_init : ByteArray := prog_13_method_1_code
def yX11_init : MethodName := ⟨RX11, "<init>", "()V"⟩
abbrev cX11_thrown : ByteArray := prog_13_method_2_code
def yX11_thrown : MethodName := ⟨RX11, "thrown", "()I"⟩
abbrev cX11_isIn : ByteArray := prog_13_method_3_code
def yX11_isIn : MethodName := ⟨RX11, "isIn", "(III)Z"⟩
abbrev cX11_lesser : ByteArray := prog_13_method_4_code
def yX11_lesser : MethodName := ⟨RX11, "lesser", "(II)I"⟩
abbrev cX11_greater : ByteArray := prog_13_method_5_code
def yX11_greater : MethodName := ⟨RX11, "greater", "(II)I"⟩
abbrev cX11_isOf : ByteArray := prog_13_method_6_code
def yX11_isOf : MethodName := ⟨RX11, "isOf", "(II)Z"⟩
abbrev cX11_bits : ByteArray := prog_13_method_7_code
def yX11_bits : MethodName := ⟨RX11, "bits", "(I)I"⟩
abbrev cX11_of : ByteArray := prog_13_method_8_code
def yX11_of : MethodName := ⟨RX11, "of", "(II)I"⟩
abbrev cX11_mixOf : ByteArray := prog_13_method_9_code
def yX11_mixOf : MethodName := ⟨RX11, "mixOf", "(II)I"⟩
abbrev cX11_ofDeal : ByteArray := prog_13_method_10_code
def yX11_ofDeal : MethodName := ⟨RX11, "ofDeal", "(II)I"⟩
abbrev cX11_hold : ByteArray := prog_13_method_11_code
def yX11_hold : MethodName := ⟨RX11, "hold", "(I)I"⟩
abbrev cX11_goesFar : ByteArray := prog_13_method_12_code
def yX11_goesFar : MethodName := ⟨RX11, "goesFar", "(I)I"⟩
abbrev cX11_heaped : ByteArray := prog_13_method_13_code
def yX11_heaped : MethodName := ⟨RX11, "heaped", "(I)I"⟩
abbrev cX11_isStreet : ByteArray := prog_13_method_14_code
def yX11_isStreet : MethodName := ⟨RX11, "isStreet", "(I)Z"⟩
abbrev cX11_isCart : ByteArray := prog_13_method_15_code
def yX11_isCart : MethodName := ⟨RX11, "isCart", "(I)Z"⟩
abbrev cX11_isDeal : ByteArray := prog_13_method_16_code
def yX11_isDeal : MethodName := ⟨RX11, "isDeal", "(I)Z"⟩
abbrev cX11_isGrain : ByteArray := prog_13_method_17_code
def yX11_isGrain : MethodName := ⟨RX11, "isGrain", "(I)Z"⟩
abbrev cX11_isOpen : ByteArray := prog_13_method_18_code
def yX11_isOpen : MethodName := ⟨RX11, "isOpen", "(I)Z"⟩
abbrev cX11_feed : ByteArray := prog_13_method_19_code
def yX11_feed : MethodName := ⟨RX11, "feed", "(IIIII)I"⟩
abbrev cX11_end : ByteArray := prog_13_method_20_code
def yX11_end : MethodName := ⟨RX11, "end", "(I)Z"⟩
abbrev cX11_letter : ByteArray := prog_13_method_21_code
def yX11_letter : MethodName := ⟨RX11, "letter", "(I)I"⟩
abbrev cX11_skip : ByteArray := prog_13_method_22_code
def yX11_skip : MethodName := ⟨RX11, "skip", "()V"⟩
abbrev cX11_isSign : ByteArray := prog_13_method_23_code
def yX11_isSign : MethodName := ⟨RX11, "isSign", "(I)Z"⟩
abbrev cX11_has : ByteArray := prog_13_method_24_code
def yX11_has : MethodName := ⟨RX11, "has", "(Ljava/lang/String;)Z"⟩
abbrev cX11_wrong : ByteArray := prog_13_method_25_code
def yX11_wrong : MethodName := ⟨RX11, "wrong", "(I)V"⟩
abbrev cX11_here : ByteArray := prog_13_method_26_code
def yX11_here : MethodName := ⟨RX11, "here", "()I"⟩
abbrev cX11_figures : ByteArray := prog_13_method_27_code
def yX11_figures : MethodName := ⟨RX11, "figures", "(II)I"⟩
abbrev cX11_after : ByteArray := prog_13_method_28_code
def yX11_after : MethodName := ⟨RX11, "after", "(Ljava/lang/String;II)I"⟩
abbrev cX11_expects : ByteArray := prog_13_method_29_code
def yX11_expects : MethodName := ⟨RX11, "expects", "(Ljava/lang/String;)Z"⟩
abbrev cX11_streetLine : ByteArray := prog_13_method_30_code
def yX11_streetLine : MethodName := ⟨RX11, "streetLine", "(I)V"⟩
abbrev cX11_cartLine : ByteArray := prog_13_method_31_code
def yX11_cartLine : MethodName := ⟨RX11, "cartLine", "(I)V"⟩
abbrev cX11_hires : ByteArray := prog_13_method_32_code
def yX11_hires : MethodName := ⟨RX11, "hires", "(II)V"⟩
abbrev cX11_sieveLine : ByteArray := prog_13_method_33_code
def yX11_sieveLine : MethodName := ⟨RX11, "sieveLine", "(I)V"⟩
abbrev cX11_buys : ByteArray := prog_13_method_34_code
def yX11_buys : MethodName := ⟨RX11, "buys", "(I)V"⟩
abbrev cX11_dealLine : ByteArray := prog_13_method_35_code
def yX11_dealLine : MethodName := ⟨RX11, "dealLine", "(I)V"⟩
abbrev cX11_takes : ByteArray := prog_13_method_36_code
def yX11_takes : MethodName := ⟨RX11, "takes", "(IIII)V"⟩
abbrev cX11_heapLine : ByteArray := prog_13_method_37_code
def yX11_heapLine : MethodName := ⟨RX11, "heapLine", "()V"⟩
abbrev cX11_tells : ByteArray := prog_13_method_38_code
def yX11_tells : MethodName := ⟨RX11, "tells", "(III)V"⟩
abbrev cX11_yardLine : ByteArray := prog_13_method_39_code
def yX11_yardLine : MethodName := ⟨RX11, "yardLine", "()V"⟩
abbrev cX11_begins : ByteArray := prog_13_method_40_code
def yX11_begins : MethodName := ⟨RX11, "begins", "()V"⟩
abbrev cX11_read : ByteArray := prog_13_method_41_code
def yX11_read : MethodName := ⟨RX11, "read", "(Z)I"⟩
abbrev cX11_putsAside : ByteArray := prog_13_method_42_code
def yX11_putsAside : MethodName := ⟨RX11, "putsAside", "()V"⟩
abbrev cX11_comesBack : ByteArray := prog_13_method_43_code
def yX11_comesBack : MethodName := ⟨RX11, "comesBack", "()V"⟩
abbrev cX11_yard : ByteArray := prog_13_method_44_code
def yX11_yard : MethodName := ⟨RX11, "yard", "()I"⟩
abbrev cX11_part : ByteArray := prog_13_method_45_code
def yX11_part : MethodName := ⟨RX11, "part", "()I"⟩
abbrev cX11_sum : ByteArray := prog_13_method_46_code
def yX11_sum : MethodName := ⟨RX11, "sum", "()I"⟩
abbrev cX11_plain : ByteArray := prog_13_method_47_code
def yX11_plain : MethodName := ⟨RX11, "plain", "()Z"⟩
abbrev cX11_atom : ByteArray := prog_13_method_48_code
def yX11_atom : MethodName := ⟨RX11, "atom", "()Z"⟩
abbrev cX11_every : ByteArray := prog_13_method_49_code
def yX11_every : MethodName := ⟨RX11, "every", "()Z"⟩
abbrev cX11_some : ByteArray := prog_13_method_50_code
def yX11_some : MethodName := ⟨RX11, "some", "()Z"⟩
abbrev cX11_lawLine : ByteArray := prog_13_method_51_code
def yX11_lawLine : MethodName := ⟨RX11, "lawLine", "()V"⟩
abbrev cX11_law : ByteArray := prog_13_method_52_code
def yX11_law : MethodName := ⟨RX11, "law", "()I"⟩
abbrev cX11_fault : ByteArray := prog_13_method_53_code
def yX11_fault : MethodName := ⟨RX11, "fault", "()I"⟩
abbrev cX11_loadOf : ByteArray := prog_13_method_54_code
def yX11_loadOf : MethodName := ⟨RX11, "loadOf", "(I)I"⟩
abbrev cX11_asks : ByteArray := prog_13_method_55_code
def yX11_asks : MethodName := ⟨RX11, "asks", "(I)V"⟩
abbrev cX11_fillsOf : ByteArray := prog_13_method_56_code
def yX11_fillsOf : MethodName := ⟨RX11, "fillsOf", "(I)I"⟩
abbrev cX11_tollOf : ByteArray := prog_13_method_57_code
def yX11_tollOf : MethodName := ⟨RX11, "tollOf", "(I)I"⟩
abbrev cX11_wayOf : ByteArray := prog_13_method_58_code
def yX11_wayOf : MethodName := ⟨RX11, "wayOf", "(II)I"⟩
abbrev cX11_draw : ByteArray := prog_13_method_59_code
def yX11_draw : MethodName := ⟨RX11, "draw", "(I)I"⟩
abbrev cX11_logs : ByteArray := prog_13_method_60_code
def yX11_logs : MethodName := ⟨RX11, "logs", "(IIII)V"⟩
abbrev cX11_unloads : ByteArray := prog_13_method_61_code
def yX11_unloads : MethodName := ⟨RX11, "unloads", "(II)V"⟩
abbrev cX11_drives : ByteArray := prog_13_method_62_code
def yX11_drives : MethodName := ⟨RX11, "drives", "(I)V"⟩
abbrev cX11_heapBetween : ByteArray := prog_13_method_63_code
def yX11_heapBetween : MethodName := ⟨RX11, "heapBetween", "(II)I"⟩
abbrev cX11_hasFor : ByteArray := prog_13_method_64_code
def yX11_hasFor : MethodName := ⟨RX11, "hasFor", "(I)Z"⟩
abbrev cX11_isFilled : ByteArray := prog_13_method_65_code
def yX11_isFilled : MethodName := ⟨RX11, "isFilled", "(II)V"⟩
abbrev cX11_halves : ByteArray := prog_13_method_66_code
def yX11_halves : MethodName := ⟨RX11, "halves", "(I)V"⟩
abbrev cX11_passes : ByteArray := prog_13_method_67_code
def yX11_passes : MethodName := ⟨RX11, "passes", "(Z)I"⟩
abbrev cX11_goes : ByteArray := prog_13_method_68_code
def yX11_goes : MethodName := ⟨RX11, "goes", "(IZ)I"⟩
abbrev cX11_waitsOfAll : ByteArray := prog_13_method_69_code
def yX11_waitsOfAll : MethodName := ⟨RX11, "waitsOfAll", "()I"⟩
abbrev cX11_openOnes : ByteArray := prog_13_method_70_code
def yX11_openOnes : MethodName := ⟨RX11, "openOnes", "()I"⟩
abbrev cX11_street : ByteArray := prog_13_method_71_code
def yX11_street : MethodName := ⟨RX11, "street", "(II)I"⟩
abbrev cX11_mix : ByteArray := prog_13_method_72_code
def yX11_mix : MethodName := ⟨RX11, "mix", "(II)I"⟩
abbrev cX11_allLoops : ByteArray := prog_13_method_73_code
def yX11_allLoops : MethodName := ⟨RX11, "allLoops", "()V"⟩
abbrev cX11_waitsOf : ByteArray := prog_13_method_74_code
def yX11_waitsOf : MethodName := ⟨RX11, "waitsOf", "(I)I"⟩
abbrev cX11_bestRound : ByteArray := prog_13_method_75_code
def yX11_bestRound : MethodName := ⟨RX11, "bestRound", "(I)I"⟩
abbrev cX11_reached : ByteArray := prog_13_method_76_code
def yX11_reached : MethodName := ⟨RX11, "reached", "(I)I"⟩
abbrev cX11_cart : ByteArray := prog_13_method_77_code
def yX11_cart : MethodName := ⟨RX11, "cart", "(II)I"⟩
abbrev cX11_mesh : ByteArray := prog_13_method_78_code
def yX11_mesh : MethodName := ⟨RX11, "mesh", "(I)I"⟩
abbrev cX11_contract : ByteArray := prog_13_method_79_code
def yX11_contract : MethodName := ⟨RX11, "contract", "(II)I"⟩
abbrev cX11_heap : ByteArray := prog_13_method_80_code
def yX11_heap : MethodName := ⟨RX11, "heap", "(I)I"⟩
abbrev cX11_way : ByteArray := prog_13_method_81_code
def yX11_way : MethodName := ⟨RX11, "way", "(II)I"⟩
abbrev cX11_remembers : ByteArray := prog_13_method_82_code
def yX11_remembers : MethodName := ⟨RX11, "remembers", "()V"⟩
abbrev cX11_sets : ByteArray := prog_13_method_83_code
def yX11_sets : MethodName := ⟨RX11, "sets", "(II)I"⟩
abbrev cX11_days : ByteArray := prog_13_method_84_code
def yX11_days : MethodName := ⟨RX11, "days", "(I)I"⟩
abbrev cX11_tip : ByteArray := prog_13_method_85_code
def yX11_tip : MethodName := ⟨RX11, "tip", "(I)I"⟩
abbrev cX11_buy : ByteArray := prog_13_method_86_code
def yX11_buy : MethodName := ⟨RX11, "buy", "(I)I"⟩
abbrev cX11_take : ByteArray := prog_13_method_87_code
def yX11_take : MethodName := ⟨RX11, "take", "(IIII)I"⟩
abbrev cX11_drop : ByteArray := prog_13_method_88_code
def yX11_drop : MethodName := ⟨RX11, "drop", "(I)V"⟩
abbrev cX11_hire : ByteArray := prog_13_method_89_code
def yX11_hire : MethodName := ⟨RX11, "hire", "(II)I"⟩
abbrev cX11_lay : ByteArray := prog_13_method_90_code
def yX11_lay : MethodName := ⟨RX11, "lay", "(III)I"⟩
abbrev cX11_douse : ByteArray := prog_13_method_91_code
def yX11_douse : MethodName := ⟨RX11, "douse", "()Z"⟩
abbrev cX11_fill : ByteArray := prog_13_method_92_code
def yX11_fill : MethodName := ⟨RX11, "fill", "(I)I"⟩
abbrev cX11_isBegin : ByteArray := prog_13_method_93_code
def yX11_isBegin : MethodName := ⟨RX11, "isBegin", "(II)Z"⟩
abbrev cX11_runLow : ByteArray := prog_13_method_94_code
def yX11_runLow : MethodName := ⟨RX11, "runLow", "(II)I"⟩
abbrev cX11_runHigh : ByteArray := prog_13_method_95_code
def yX11_runHigh : MethodName := ⟨RX11, "runHigh", "(II)I"⟩
abbrev cX11_classes : ByteArray := prog_13_method_96_code
def yX11_classes : MethodName := ⟨RX11, "classes", "(I)I"⟩
abbrev cX11_classOf : ByteArray := prog_13_method_97_code
def yX11_classOf : MethodName := ⟨RX11, "classOf", "(II)I"⟩
abbrev cX11_held : ByteArray := prog_13_method_98_code
def yX11_held : MethodName := ⟨RX11, "held", "(II)I"⟩
abbrev cX11_partsAll : ByteArray := prog_13_method_99_code
def yX11_partsAll : MethodName := ⟨RX11, "partsAll", "(I)Z"⟩
abbrev cX11_fewest : ByteArray := prog_13_method_100_code
def yX11_fewest : MethodName := ⟨RX11, "fewest", "()I"⟩
abbrev cX11_clean : ByteArray := prog_13_method_101_code
def yX11_clean : MethodName := ⟨RX11, "clean", "(II)I"⟩
abbrev cX11_round : ByteArray := prog_13_method_102_code
def yX11_round : MethodName := ⟨RX11, "round", "()I"⟩
abbrev cX11_trips : ByteArray := prog_13_method_103_code
def yX11_trips : MethodName := ⟨RX11, "trips", "(I)I"⟩
abbrev cX11_paysOf : ByteArray := prog_13_method_104_code
def yX11_paysOf : MethodName := ⟨RX11, "paysOf", "(I)I"⟩
abbrev cX11_areServed : ByteArray := prog_13_method_105_code
def yX11_areServed : MethodName := ⟨RX11, "areServed", "(I)Z"⟩
abbrev cX11_paysOfSet : ByteArray := prog_13_method_106_code
def yX11_paysOfSet : MethodName := ⟨RX11, "paysOfSet", "(I)I"⟩
abbrev cX11_mostServed : ByteArray := prog_13_method_107_code
def yX11_mostServed : MethodName := ⟨RX11, "mostServed", "()I"⟩
abbrev cX11_worth : ByteArray := prog_13_method_108_code
def yX11_worth : MethodName := ⟨RX11, "worth", "()I"⟩
abbrev cX11_serves : ByteArray := prog_13_method_109_code
def yX11_serves : MethodName := ⟨RX11, "serves", "()I"⟩
abbrev cX11_blend : ByteArray := prog_13_method_110_code
def yX11_blend : MethodName := ⟨RX11, "blend", "(IIII)I"⟩
abbrev cX11_hears : ByteArray := prog_13_method_111_code
def yX11_hears : MethodName := ⟨RX11, "hears", "()I"⟩
abbrev cX11_from : ByteArray := prog_13_method_112_code
def yX11_from : MethodName := ⟨RX11, "from", "()I"⟩
abbrev cX11_likely : ByteArray := prog_13_method_113_code
def yX11_likely : MethodName := ⟨RX11, "likely", "()I"⟩
abbrev cX11_partBy : ByteArray := prog_13_method_114_code
def yX11_partBy : MethodName := ⟨RX11, "partBy", "(II)I"⟩
abbrev cX11_ask : ByteArray := prog_13_method_115_code
def yX11_ask : MethodName := ⟨RX11, "ask", "()I"⟩
abbrev cX11_through : ByteArray := prog_13_method_116_code
def yX11_through : MethodName := ⟨RX11, "through", "(II)I"⟩
abbrev cX11_isPair : ByteArray := prog_13_method_117_code
def yX11_isPair : MethodName := ⟨RX11, "isPair", "(I)Z"⟩
abbrev cX11_siftRows : ByteArray := prog_13_method_118_code
def yX11_siftRows : MethodName := ⟨RX11, "siftRows", "()I"⟩
abbrev cX11_fitsPair : ByteArray := prog_13_method_119_code
def yX11_fitsPair : MethodName := ⟨RX11, "fitsPair", "(II)Z"⟩
abbrev cX11_meshes : ByteArray := prog_13_method_120_code
def yX11_meshes : MethodName := ⟨RX11, "meshes", "(Z)I"⟩
abbrev cX11_sift : ByteArray := prog_13_method_121_code
def yX11_sift : MethodName := ⟨RX11, "sift", "()I"⟩
abbrev cX11_allEnds : ByteArray := prog_13_method_122_code
def yX11_allEnds : MethodName := ⟨RX11, "allEnds", "()V"⟩
abbrev cX11_ends : ByteArray := prog_13_method_123_code
def yX11_ends : MethodName := ⟨RX11, "ends", "()I"⟩
abbrev cX11_side : ByteArray := prog_13_method_124_code
def yX11_side : MethodName := ⟨RX11, "side", "()I"⟩
abbrev cX11_lowest : ByteArray := prog_13_method_125_code
def yX11_lowest : MethodName := ⟨RX11, "lowest", "(I)I"⟩
abbrev cX11_both : ByteArray := prog_13_method_126_code
def yX11_both : MethodName := ⟨RX11, "both", "(II)I"⟩
abbrev cX11_allBest : ByteArray := prog_13_method_127_code
def yX11_allBest : MethodName := ⟨RX11, "allBest", "()V"⟩
abbrev cX11_pairs : ByteArray := prog_13_method_128_code
def yX11_pairs : MethodName := ⟨RX11, "pairs", "(I)I"⟩
abbrev cX11_share : ByteArray := prog_13_method_129_code
def yX11_share : MethodName := ⟨RX11, "share", "(II)I"⟩
abbrev cX11_heHas : ByteArray := prog_13_method_130_code
def yX11_heHas : MethodName := ⟨RX11, "heHas", "(III)I"⟩
abbrev cX11_ratHas : ByteArray := prog_13_method_131_code
def yX11_ratHas : MethodName := ⟨RX11, "ratHas", "(II)I"⟩
abbrev cX11_rests : ByteArray := prog_13_method_132_code
def yX11_rests : MethodName := ⟨RX11, "rests", "(I)I"⟩
abbrev cX11_odds : ByteArray := prog_13_method_133_code
def yX11_odds : MethodName := ⟨RX11, "odds", "(II)I"⟩
abbrev cX11_valueOf : ByteArray := prog_13_method_134_code
def yX11_valueOf : MethodName := ⟨RX11, "valueOf", "(II)I"⟩
abbrev cX11_most : ByteArray := prog_13_method_135_code
def yX11_most : MethodName := ⟨RX11, "most", "(I)I"⟩
abbrev cX11_open : ByteArray := prog_13_method_136_code
def yX11_open : MethodName := ⟨RX11, "open", "(Z)I"⟩
abbrev cX11_twins : ByteArray := prog_13_method_137_code
def yX11_twins : MethodName := ⟨RX11, "twins", "()I"⟩
abbrev cX11_wanted : ByteArray := prog_13_method_138_code
def yX11_wanted : MethodName := ⟨RX11, "wanted", "(I)I"⟩
abbrev cX11_ahead : ByteArray := prog_13_method_139_code
def yX11_ahead : MethodName := ⟨RX11, "ahead", "(II)I"⟩
abbrev cX11_trial : ByteArray := prog_13_method_140_code
def yX11_trial : MethodName := ⟨RX11, "trial", "(IZ)I"⟩
abbrev cX11_span : ByteArray := prog_13_method_141_code
def yX11_span : MethodName := ⟨RX11, "span", "(IZ)I"⟩
abbrev cX11_logged : ByteArray := prog_13_method_142_code
def yX11_logged : MethodName := ⟨RX11, "logged", "(II)I"⟩
abbrev cX11_led : ByteArray := prog_13_method_143_code
def yX11_led : MethodName := ⟨RX11, "led", "(IZ)I"⟩
abbrev cX11_log : ByteArray := prog_13_method_144_code
def yX11_log : MethodName := ⟨RX11, "log", "(II)I"⟩
abbrev cX11_seed : ByteArray := prog_13_method_145_code
def yX11_seed : MethodName := ⟨RX11, "seed", "(I)I"⟩
abbrev cX11_undo : ByteArray := prog_13_method_146_code
def yX11_undo : MethodName := ⟨RX11, "undo", "()Z"⟩
abbrev cX11_image : ByteArray := prog_13_method_147_code
def yX11_image : MethodName := ⟨RX11, "image", "()V"⟩
abbrev cX11_back : ByteArray := prog_13_method_148_code
def yX11_back : MethodName := ⟨RX11, "back", "()Z"⟩
abbrev cX11_count : ByteArray := prog_13_method_149_code
def yX11_count : MethodName := ⟨RX11, "count", "(I)I"⟩
def RJx145de : String := "java/io/Serializable"
def TJx145de : u_T := fun k => match k with
  | _ => ("", "", "", false)
def tyJx145de : Nat → FieldType := fun k => match k with
  | _ => .int
abbrev wsJx145de0 : List Cond := u_ws RJx145de TJx145de 0
theorem nmJx145de : ∀ a, a < 0 → ∀ b, b < 0 → a ≠ b → (TJx145de a).2.1 ≠ (TJx145de b).2.1 := by decide +kernel
theorem tyJx145de_ok : ∀ k, k < 0 → parseFieldDescriptor (TJx145de k).2.2.1 = some (tyJx145de k) := by decide +kernel
def RJx9f9b0 : String := "java/lang/CharSequence"
def TJx9f9b0 : u_T := fun k => match k with
  | _ => ("", "", "", false)
def tyJx9f9b0 : Nat → FieldType := fun k => match k with
  | _ => .int
abbrev wsJx9f9b00 : List Cond := u_ws RJx9f9b0 TJx9f9b0 0
theorem nmJx9f9b0 : ∀ a, a < 0 → ∀ b, b < 0 → a ≠ b → (TJx9f9b0 a).2.1 ≠ (TJx9f9b0 b).2.1 := by decide +kernel
theorem tyJx9f9b0_ok : ∀ k, k < 0 → parseFieldDescriptor (TJx9f9b0 k).2.2.1 = some (tyJx9f9b0 k) := by decide +kernel
def RJxb160c : String := "java/lang/Comparable"
def TJxb160c : u_T := fun k => match k with
  | _ => ("", "", "", false)
def tyJxb160c : Nat → FieldType := fun k => match k with
  | _ => .int
abbrev wsJxb160c0 : List Cond := u_ws RJxb160c TJxb160c 0
theorem nmJxb160c : ∀ a, a < 0 → ∀ b, b < 0 → a ≠ b → (TJxb160c a).2.1 ≠ (TJxb160c b).2.1 := by decide +kernel
theorem tyJxb160c_ok : ∀ k, k < 0 → parseFieldDescriptor (TJxb160c k).2.2.1 = some (tyJxb160c k) := by decide +kernel
def RJ6 : String := "java/lang/Integer"
def TJ6 : u_T := fun k => match k with
  | _ => ("", "", "", false)
def tyJ6 : Nat → FieldType := fun k => match k with
  | _ => .int
abbrev wsJ60 : List Cond := u_ws RJ6 TJ6 0
theorem nmJ6 : ∀ a, a < 0 → ∀ b, b < 0 → a ≠ b → (TJ6 a).2.1 ≠ (TJ6 b).2.1 := by decide +kernel
theorem tyJ6_ok : ∀ k, k < 0 → parseFieldDescriptor (TJ6 k).2.2.1 = some (tyJ6 k) := by decide +kernel
abbrev cJ6_bitCount_0f7a4 : ByteArray := prog_21_method_49_code
def yJ6_bitCount_0f7a4 : MethodName := ⟨RJ6, "bitCount", "(I)I"⟩
def RJ9 : String := "java/lang/Math"
def TJ9 : u_T := fun k => match k with
  | _ => ("", "", "", false)
def tyJ9 : Nat → FieldType := fun k => match k with
  | _ => .int
abbrev wsJ90 : List Cond := u_ws RJ9 TJ9 0
theorem nmJ9 : ∀ a, a < 0 → ∀ b, b < 0 → a ≠ b → (TJ9 a).2.1 ≠ (TJ9 b).2.1 := by decide +kernel
theorem tyJ9_ok : ∀ k, k < 0 → parseFieldDescriptor (TJ9 k).2.2.1 = some (tyJ9 k) := by decide +kernel
abbrev cJ9_abs_0f7a4 : ByteArray := prog_22_method_59_code
def yJ9_abs_0f7a4 : MethodName := ⟨RJ9, "abs", "(I)I"⟩
abbrev cJ9_max_7cf53 : ByteArray := prog_22_method_65_code
def yJ9_max_7cf53 : MethodName := ⟨RJ9, "max", "(II)I"⟩
abbrev cJ9_min_7cf53 : ByteArray := prog_22_method_69_code
def yJ9_min_7cf53 : MethodName := ⟨RJ9, "min", "(II)I"⟩
def RJ0 : String := "java/lang/String"
def TJ0 : u_T := fun k => match k with
  | _ => ("", "", "", false)
def tyJ0 : Nat → FieldType := fun k => match k with
  | _ => .int
abbrev wsJ00 : List Cond := u_ws RJ0 TJ0 0
theorem nmJ0 : ∀ a, a < 0 → ∀ b, b < 0 → a ≠ b → (TJ0 a).2.1 ≠ (TJ0 b).2.1 := by decide +kernel
theorem tyJ0_ok : ∀ k, k < 0 → parseFieldDescriptor (TJ0 k).2.2.1 = some (tyJ0 k) := by decide +kernel
abbrev cJ0_length_8abf5 : ByteArray := prog_24_method_54_code
def yJ0_length_8abf5 : MethodName := ⟨RJ0, "length", "()I"⟩
abbrev cJ0_charAt_5068e : ByteArray := prog_24_method_56_code
def yJ0_charAt_5068e : MethodName := ⟨RJ0, "charAt", "(I)C"⟩
abbrev cJ0_coder_7d493 : ByteArray := prog_24_method_152_code
def yJ0_coder_7d493 : MethodName := ⟨RJ0, "coder", "()B"⟩
abbrev cJ0_isLatin1_aae02 : ByteArray := prog_24_method_154_code
def yJ0_isLatin1_aae02 : MethodName := ⟨RJ0, "isLatin1", "()Z"⟩
abbrev cJ0_checkIndex_df160 : ByteArray := prog_24_method_155_code
def yJ0_checkIndex_df160 : MethodName := ⟨RJ0, "checkIndex", "(II)V"⟩
def RJ1 : String := "java/lang/StringLatin1"
def TJ1 : u_T := fun k => match k with
  | _ => ("", "", "", false)
def tyJ1 : Nat → FieldType := fun k => match k with
  | _ => .int
abbrev wsJ10 : List Cond := u_ws RJ1 TJ1 0
theorem nmJ1 : ∀ a, a < 0 → ∀ b, b < 0 → a ≠ b → (TJ1 a).2.1 ≠ (TJ1 b).2.1 := by decide +kernel
theorem tyJ1_ok : ∀ k, k < 0 → parseFieldDescriptor (TJ1 k).2.2.1 = some (tyJ1 k) := by decide +kernel
abbrev cJ1_charAt_3b067 : ByteArray := prog_25_method_2_code
def yJ1_charAt_3b067 : MethodName := ⟨RJ1, "charAt", "([BI)C"⟩
def RJ2 : String := "java/lang/StringUTF16"
def TJ2 : u_T := fun k => match k with
  | _ => ("", "", "", false)
def tyJ2 : Nat → FieldType := fun k => match k with
  | _ => .int
abbrev wsJ20 : List Cond := u_ws RJ2 TJ2 0
theorem nmJ2 : ∀ a, a < 0 → ∀ b, b < 0 → a ≠ b → (TJ2 a).2.1 ≠ (TJ2 b).2.1 := by decide +kernel
theorem tyJ2_ok : ∀ k, k < 0 → parseFieldDescriptor (TJ2 k).2.2.1 = some (tyJ2 k) := by decide +kernel
abbrev cJ2_getChar_3b067 : ByteArray := prog_26_method_5_code
def yJ2_getChar_3b067 : MethodName := ⟨RJ2, "getChar", "([BI)C"⟩
abbrev cJ2_length_9d52b : ByteArray := prog_26_method_6_code
def yJ2_length_9d52b : MethodName := ⟨RJ2, "length", "([B)I"⟩
abbrev cJ2_charAt_3b067 : ByteArray := prog_26_method_83_code
def yJ2_charAt_3b067 : MethodName := ⟨RJ2, "charAt", "([BI)C"⟩
abbrev cJ2_checkIndex_2214a : ByteArray := prog_26_method_91_code
def yJ2_checkIndex_2214a : MethodName := ⟨RJ2, "checkIndex", "(I[B)V"⟩
def RJ10 : String := "java/lang/System"
def TJ10 : u_T := fun k => match k with
  | _ => ("", "", "", false)
def tyJ10 : Nat → FieldType := fun k => match k with
  | _ => .int
abbrev wsJ100 : List Cond := u_ws RJ10 TJ10 0
theorem nmJ10 : ∀ a, a < 0 → ∀ b, b < 0 → a ≠ b → (TJ10 a).2.1 ≠ (TJ10 b).2.1 := by decide +kernel
theorem tyJ10_ok : ∀ k, k < 0 → parseFieldDescriptor (TJ10 k).2.2.1 = some (tyJ10 k) := by decide +kernel
def RJxfd54e : String := "java/lang/constant/Constable"
def TJxfd54e : u_T := fun k => match k with
  | _ => ("", "", "", false)
def tyJxfd54e : Nat → FieldType := fun k => match k with
  | _ => .int
abbrev wsJxfd54e0 : List Cond := u_ws RJxfd54e TJxfd54e 0
theorem nmJxfd54e : ∀ a, a < 0 → ∀ b, b < 0 → a ≠ b → (TJxfd54e a).2.1 ≠ (TJxfd54e b).2.1 := by decide +kernel
theorem tyJxfd54e_ok : ∀ k, k < 0 → parseFieldDescriptor (TJxfd54e k).2.2.1 = some (tyJxfd54e k) := by decide +kernel
def RJx3cf43 : String := "java/lang/constant/ConstantDesc"
def TJx3cf43 : u_T := fun k => match k with
  | _ => ("", "", "", false)
def tyJx3cf43 : Nat → FieldType := fun k => match k with
  | _ => .int
abbrev wsJx3cf430 : List Cond := u_ws RJx3cf43 TJx3cf43 0
theorem nmJx3cf43 : ∀ a, a < 0 → ∀ b, b < 0 → a ≠ b → (TJx3cf43 a).2.1 ≠ (TJx3cf43 b).2.1 := by decide +kernel
theorem tyJx3cf43_ok : ∀ k, k < 0 → parseFieldDescriptor (TJx3cf43 k).2.2.1 = some (tyJx3cf43 k) := by decide +kernel
def RJ3 : String := "jdk/internal/util/Preconditions"
def TJ3 : u_T := fun k => match k with
  | _ => ("", "", "", false)
def tyJ3 : Nat → FieldType := fun k => match k with
  | _ => .int
abbrev wsJ30 : List Cond := u_ws RJ3 TJ3 0
theorem nmJ3 : ∀ a, a < 0 → ∀ b, b < 0 → a ≠ b → (TJ3 a).2.1 ≠ (TJ3 b).2.1 := by decide +kernel
theorem tyJ3_ok : ∀ k, k < 0 → parseFieldDescriptor (TJ3 k).2.2.1 = some (tyJ3 k) := by decide +kernel
abbrev cJ3_checkIndex_8e157 : ByteArray := prog_33_method_11_code
def yJ3_checkIndex_8e157 : MethodName := ⟨RJ3, "checkIndex", "(IILjava/util/function/BiFunction;)I"⟩
def RL : String := "DustYardLaw"
abbrev cL_yard : ByteArray := method_3_code
def yL_yard : MethodName := ⟨RL, "yard", "(LDustYard;[J)I"⟩
abbrev cL_law : ByteArray := method_4_code
def yL_law : MethodName := ⟨RL, "law", "(LDustYard;[J)I"⟩
abbrev cL_street : ByteArray := method_5_code
def yL_street : MethodName := ⟨RL, "street", "(LDustYard;II[J)I"⟩
abbrev cL_mix : ByteArray := method_6_code
def yL_mix : MethodName := ⟨RL, "mix", "(LDustYard;II[J)I"⟩
abbrev cL_cart : ByteArray := method_7_code
def yL_cart : MethodName := ⟨RL, "cart", "(LDustYard;II[J)I"⟩
abbrev cL_mesh : ByteArray := method_8_code
def yL_mesh : MethodName := ⟨RL, "mesh", "(LDustYard;I[J)I"⟩
abbrev cL_contract : ByteArray := method_9_code
def yL_contract : MethodName := ⟨RL, "contract", "(LDustYard;II[J)I"⟩
abbrev cL_heap : ByteArray := method_10_code
def yL_heap : MethodName := ⟨RL, "heap", "(LDustYard;I[J)I"⟩
abbrev cL_way : ByteArray := method_11_code
def yL_way : MethodName := ⟨RL, "way", "(LDustYard;II[J)I"⟩
abbrev cL_days : ByteArray := method_12_code
def yL_days : MethodName := ⟨RL, "days", "(LDustYard;I[J)I"⟩
abbrev cL_tip : ByteArray := method_13_code
def yL_tip : MethodName := ⟨RL, "tip", "(LDustYard;I[J)I"⟩
abbrev cL_buy : ByteArray := method_14_code
def yL_buy : MethodName := ⟨RL, "buy", "(LDustYard;I[J)I"⟩
abbrev cL_take : ByteArray := method_15_code
def yL_take : MethodName := ⟨RL, "take", "(LDustYard;IIII[J)I"⟩
abbrev cL_drop : ByteArray := method_16_code
def yL_drop : MethodName := ⟨RL, "drop", "(LDustYard;I)I"⟩
abbrev cL_hire : ByteArray := method_17_code
def yL_hire : MethodName := ⟨RL, "hire", "(LDustYard;II[J)I"⟩
abbrev cL_lay : ByteArray := method_18_code
def yL_lay : MethodName := ⟨RL, "lay", "(LDustYard;III[J)I"⟩
abbrev cL_fill : ByteArray := method_19_code
def yL_fill : MethodName := ⟨RL, "fill", "(LDustYard;I[J)I"⟩
abbrev cL_classOf : ByteArray := method_20_code
def yL_classOf : MethodName := ⟨RL, "classOf", "(LDustYard;II[J)I"⟩
abbrev cL_held : ByteArray := method_21_code
def yL_held : MethodName := ⟨RL, "held", "(LDustYard;II[J)I"⟩
abbrev cL_clean : ByteArray := method_22_code
def yL_clean : MethodName := ⟨RL, "clean", "(LDustYard;II[J)I"⟩
abbrev cL_round : ByteArray := method_23_code
def yL_round : MethodName := ⟨RL, "round", "(LDustYard;[J)I"⟩
abbrev cL_trips : ByteArray := method_24_code
def yL_trips : MethodName := ⟨RL, "trips", "(LDustYard;I[J)I"⟩
abbrev cL_blend : ByteArray := method_25_code
def yL_blend : MethodName := ⟨RL, "blend", "(LDustYard;IIII[J)I"⟩
abbrev cL_from : ByteArray := method_26_code
def yL_from : MethodName := ⟨RL, "from", "(LDustYard;[J)I"⟩
abbrev cL_likely : ByteArray := method_27_code
def yL_likely : MethodName := ⟨RL, "likely", "(LDustYard;[J)I"⟩
abbrev cL_ask : ByteArray := method_28_code
def yL_ask : MethodName := ⟨RL, "ask", "(LDustYard;[J)I"⟩
abbrev cL_meshes : ByteArray := method_29_code
def yL_meshes : MethodName := ⟨RL, "meshes", "(LDustYard;Z[J)I"⟩
abbrev cL_sift : ByteArray := method_30_code
def yL_sift : MethodName := ⟨RL, "sift", "(LDustYard;[J)I"⟩
abbrev cL_pairs : ByteArray := method_31_code
def yL_pairs : MethodName := ⟨RL, "pairs", "(LDustYard;I[J)I"⟩
abbrev cL_share : ByteArray := method_32_code
def yL_share : MethodName := ⟨RL, "share", "(LDustYard;II[J)I"⟩
abbrev cL_rests : ByteArray := method_33_code
def yL_rests : MethodName := ⟨RL, "rests", "(LDustYard;I[J)I"⟩
abbrev cL_odds : ByteArray := method_34_code
def yL_odds : MethodName := ⟨RL, "odds", "(LDustYard;II[J)I"⟩
abbrev cL_most : ByteArray := method_35_code
def yL_most : MethodName := ⟨RL, "most", "(LDustYard;I[J)I"⟩
abbrev cL_wanted : ByteArray := method_36_code
def yL_wanted : MethodName := ⟨RL, "wanted", "(LDustYard;I[J)I"⟩
abbrev cL_ahead : ByteArray := method_37_code
def yL_ahead : MethodName := ⟨RL, "ahead", "(LDustYard;II[J)I"⟩
abbrev cL_trial : ByteArray := method_38_code
def yL_trial : MethodName := ⟨RL, "trial", "(LDustYard;IZ[J)I"⟩
abbrev cL_span : ByteArray := method_39_code
def yL_span : MethodName := ⟨RL, "span", "(LDustYard;IZ[J)I"⟩
abbrev cL_led : ByteArray := method_40_code
def yL_led : MethodName := ⟨RL, "led", "(LDustYard;IZ[J)I"⟩
abbrev cL_log : ByteArray := method_41_code
def yL_log : MethodName := ⟨RL, "log", "(LDustYard;II[J)I"⟩
abbrev cL_law_ : ByteArray := code
def yL_law_ : MethodName := ⟨RL, "law", "([I)Z"⟩
end
section
/-! MINI: what a method's code does, as a weakest condition over a world of cells at the numbers 0, 1, .. (a reference is such a number; 1000 and on are constants: texts, read-only rows). A world is a list of shapes (fixed but in constructors) and the ints in it. No Lean of the kit's is copied here. -/
/-- a field: none an int; some none null; some (some r) a reference -/
abbrev mFs : Type := Option (Option Nat)
/-- a cell's shape: an object (class, fields) | int[n] | long[n] (of longs that are ints) | references -/
abbrev mSh : Type := (Nat × List mFs) ⊕ (Nat ⊕ (Nat ⊕ List (Option Nat)))
abbrev mSg : Type := Nat → Nat → Int32
abbrev mLc : Type := List (Option Value)
/-- an instruction with what it means: its length, the place of its word in the tables, three numbers, pairs -/
abbrev mIt : Type := Instr × Nat × Nat × Nat × Nat × Nat × List (Nat × Nat)
/-- returned, or threw a class -/
abbrev mOut : Type := Option Value ⊕ Nat
abbrev mPst : Type := mOut → List mSh → mSg → Prop
abbrev mJt : Type := Nat → mLc → List Value → List mSh → mSg → Nat → Nat → Prop
abbrev mCt : Type := Nat → List Value → List mSh → mSg → mPst → Prop
def mnx {α : Type} : List α → Nat → Option α
  | [], _ => none
  | a :: _, 0 => some a
  | _ :: l, n + 1 => mnx l n
def mse {α : Type} : List α → Nat → α → List α
  | [], _, _ => []
  | _ :: l, 0, v => v :: l
  | a :: l, n + 1, v => a :: mse l n v
def mput (σ : mSg) (a i : Nat) (v : Int32) : mSg := fun b => if b = a then upd (σ b) i v else σ b
/-- the live ones of the locals -/
def mkl : Nat → mLc → mLc
  | _, [] => []
  | m, v :: L => (match m % 2 with | 0 => none | _ => v) :: mkl (m / 2) L
/-- the local ahead of place n, if it is a long, is known no more -/
def mclr : mLc → Nat → mLc
  | [], _ => []
  | a :: L, 0 => a :: L
  | a :: L, 1 => (match a with | some (.long _) => none | some (.double _) => none | _ => a) :: L
  | a :: L, n + 2 => a :: mclr L (n + 1)
def mst1 (L : mLc) (i : Nat) (v : Value) : mLc := mse (mclr L i) i (some v)
def mst2 (L : mLc) (i : Nat) (v : Value) : mLc := mse (mse (mclr L i) i (some v)) (i + 1) none
/-- ranges of cells that a callee sees: its numbers to the caller's, and back -/
def mgl : List (Nat × Nat) → Nat → Nat
  | [], j => 1000 + j
  | (k, n) :: r, j => match Nat.blt j n with | true => k + j | false => mgl r (j - n)
def mlo : List (Nat × Nat) → Nat → Option Nat
  | [], _ => none
  | (k, n) :: r, a => match Nat.ble k a && Nat.blt a (k + n) with | true => some (a - k) | false => match mlo r a with | some j => some (j + n) | none => none
def mtot : List (Nat × Nat) → Nat
  | [] => 0
  | (_, n) :: r => n + mtot r
/-- the ranges lie apart, and within the first N -/
def map1 (k n : Nat) : List (Nat × Nat) → Bool
  | [] => true
  | (k2, n2) :: r => (Nat.ble (k + n) k2 || Nat.ble (k2 + n2) k) && map1 k n r
def mapt (N : Nat) : List (Nat × Nat) → Bool
  | [] => true
  | (k, n) :: r => Nat.ble (k + n) N && (map1 k n r && mapt N r)
def mrv (rg : List (Nat × Nat)) : List Value → Option (List Value)
  | [] => some []
  | .ref r :: l => match Nat.ble 1000 r with
    | true => match mrv rg l with | some l' => some (.ref r :: l') | none => none
    | false => match mlo rg r with
      | some q => match mrv rg l with | some l' => some (.ref q :: l') | none => none
      | none => none
  | v :: l => match mrv rg l with | some l' => some (v :: l') | none => none
def mckF (rg : List (Nat × Nat)) : List mFs → List mFs → Bool
  | [], [] => true
  | none :: a, none :: b => mckF rg a b
  | some none :: a, some none :: b => mckF rg a b
  | some (some q) :: a, some (some q2) :: b => match mlo rg q with | some j => Nat.beq j q2 && mckF rg a b | none => false
  | _, _ => false
def mckR (rg : List (Nat × Nat)) : List (Option Nat) → List (Option Nat) → Bool
  | [], [] => true
  | none :: a, none :: b => mckR rg a b
  | some q :: a, some q2 :: b => match mlo rg q with | some j => Nat.beq j q2 && mckR rg a b | none => false
  | _, _ => false
def mck1 (rg : List (Nat × Nat)) : Option mSh → mSh → Bool
  | some (.inl (c, fs)), .inl (c2, fs2) => Nat.beq c c2 && mckF rg fs fs2
  | some (.inr (.inl n)), .inr (.inl n2) => Nat.beq n n2
  | some (.inr (.inr (.inl n))), .inr (.inr (.inl n2)) => Nat.beq n n2
  | some (.inr (.inr (.inr rs))), .inr (.inr (.inr rs2)) => mckR rg rs rs2
  | _, _ => false
def mckA (rg : List (Nat × Nat)) (sh : List mSh) : Nat → List mSh → Bool
  | _, [] => true
  | j, s :: l => mck1 rg (mnx sh (mgl rg j)) s && mckA rg sh (j + 1) l
/-- the callee's shapes are the caller's in these ranges -/
def mck (rg : List (Nat × Nat)) (sh shl : List mSh) : Bool := (Nat.beq (mtot rg) shl.length && (Nat.ble (mtot rg) 1000 && mapt sh.length rg)) && mckA rg sh 0 shl
/-- how many cells belong to an object of a class: Deals, Guesses, Law, Log, Memory, (Reader), Rounds, State, Tape, DustYard, DustYardModel -/
def mbl : Nat → Nat
  | 0 => 3
  | 1 => 4
  | 2 => 7
  | 3 => 2
  | 4 => 110
  | 6 => 4
  | 7 => 9
  | 8 => 4
  | 9 => 175
  | 10 => 14
  | _ => 1
def mrg1 (sh : List mSh) (r : Nat) : List (Nat × Nat) := match mnx sh r with
  | some (.inl (5, [some (some a), some (some b), some (some d)])) => [(r, 1), (a, 4), (b, 9), (d, 7)]
  | some (.inl (c, _)) => [(r, mbl c)]
  | _ => [(r, 1)]
def mrg (sh : List mSh) : List Value → List (Nat × Nat)
  | [] => []
  | .ref r :: l => match Nat.ble 1000 r with | true => mrg sh l | false => mrg1 sh r ++ mrg sh l
  | _ :: l => mrg sh l
/-- the ints behind a callee's end -/
def mback (rg : List (Nat × Nat)) (σ σl : mSg) : mSg := fun a => match mlo rg a with | some j => σl j | none => σ a
def mfsE : List mFs → List mFs → Bool
  | [], [] => true
  | none :: a, none :: b => mfsE a b
  | some none :: a, some none :: b => mfsE a b
  | some (some q) :: a, some (some q2) :: b => Nat.beq q q2 && mfsE a b
  | _, _ => false
def mrsE : List (Option Nat) → List (Option Nat) → Bool
  | [], [] => true
  | none :: a, none :: b => mrsE a b
  | some q :: a, some q2 :: b => Nat.beq q q2 && mrsE a b
  | _, _ => false
def mshE : mSh → mSh → Bool
  | .inl (c, fs), .inl (c2, fs2) => Nat.beq c c2 && mfsE fs fs2
  | .inr (.inl n), .inr (.inl n2) => Nat.beq n n2
  | .inr (.inr (.inl n)), .inr (.inr (.inl n2)) => Nat.beq n n2
  | .inr (.inr (.inr rs)), .inr (.inr (.inr rs2)) => mrsE rs rs2
  | _, _ => false
/-- the first list is the beginning of the second -/
def mpre : List mSh → List mSh → Bool
  | [], _ => true
  | a :: l, b :: m => mshE a b && mpre l m
  | _ :: _, [] => false
/-- references of a list are below n, or constants -/
def mokV (n : Nat) : List Value → Bool
  | [] => true
  | .ref r :: l => (Nat.blt r n || Nat.ble 1000 r) && mokV n l
  | _ :: l => mokV n l
def mokL (n : Nat) : mLc → Bool
  | [] => true
  | some (.ref r) :: l => (Nat.blt r n || Nat.ble 1000 r) && mokL n l
  | _ :: l => mokL n l
def mokF (n : Nat) : List mFs → Bool
  | [] => true
  | some (some r) :: l => Nat.blt r n && mokF n l
  | _ :: l => mokF n l
def mokR (n : Nat) : List (Option Nat) → Bool
  | [] => true
  | some r :: l => Nat.blt r n && mokR n l
  | _ :: l => mokR n l
def mokS (n : Nat) : List mSh → Bool
  | [] => true
  | .inl (_, fs) :: l => mokF n fs && mokS n l
  | .inr (.inr (.inr rs)) :: l => mokR n rs && mokS n l
  | _ :: l => mokS n l
def mcat : List Value → Nat
  | [] => 0
  | .long _ :: l => 2 + mcat l
  | .double _ :: l => 2 + mcat l
  | _ :: l => 1 + mcat l
def mtk : Nat → List Value → List Value
  | 0, _ => []
  | _ + 1, [] => []
  | n + 1, v :: l => v :: mtk n l
def mdr : Nat → List Value → List Value
  | 0, l => l
  | _ + 1, [] => []
  | n + 1, _ :: l => mdr n l
def mhd : List (Nat × Nat) → Nat → Option Nat
  | [], _ => none
  | (a, t) :: l, x => match Nat.beq a x with | true => some t | false => mhd l x
/-- constants and what only the stack and the locals are asked for -/
def mpu (i : Instr) (a d : Nat) (L : mLc) (st : List Value) : Option (List Value) := match i with
  | .iconst _ => some (.int (match d with | 0 => nI a | _ => -(nI a)) :: st)
  | .bipush _ => some (.int (match d with | 0 => nI a | _ => -(nI a)) :: st)
  | .sipush _ => some (.int (match d with | 0 => nI a | _ => -(nI a)) :: st)
  | .ldc _ => some ((match d with | 0 => Value.int (nI a) | 1 => .int (-(nI a)) | _ => .ref (1000 + a)) :: st)
  | .ldc_w _ => some ((match d with | 0 => Value.int (nI a) | 1 => .int (-(nI a)) | _ => .ref (1000 + a)) :: st)
  | .ldc2_w _ => some (.long (lN a) :: st)
  | .lconst _ => some (.long (lN a) :: st)
  | .iload k => match mnx L k with | some (some (.int x)) => some (.int x :: st) | _ => none
  | .iload_n k => match mnx L k.val with | some (some (.int x)) => some (.int x :: st) | _ => none
  | .lload k => match mnx L k with | some (some (.long x)) => some (.long x :: st) | _ => none
  | .lload_n k => match mnx L k.val with | some (some (.long x)) => some (.long x :: st) | _ => none
  | .aload k => match mnx L k with | some (some (.ref x)) => some (.ref x :: st) | _ => none
  | .aload_n k => match mnx L k.val with | some (some (.ref x)) => some (.ref x :: st) | _ => none
  | .iadd => match st with | .int y :: .int x :: r => some (.int (x + y) :: r) | _ => none
  | .isub => match st with | .int y :: .int x :: r => some (.int (x - y) :: r) | _ => none
  | .imul => match st with | .int y :: .int x :: r => some (.int (x * y) :: r) | _ => none
  | .iand => match st with | .int y :: .int x :: r => some (.int (x &&& y) :: r) | _ => none
  | .ior => match st with | .int y :: .int x :: r => some (.int (x ||| y) :: r) | _ => none
  | .ixor => match st with | .int y :: .int x :: r => some (.int (x ^^^ y) :: r) | _ => none
  | .ishl => match st with | .int y :: .int x :: r => some (.int (x <<< (y &&& 31)) :: r) | _ => none
  | .ishr => match st with | .int y :: .int x :: r => some (.int (x >>> (y &&& 31)) :: r) | _ => none
  | .iushr => match st with | .int y :: .int x :: r => some (.int ((x.toUInt32 >>> (y.toUInt32 &&& Int32.toUInt32 31)).toInt32) :: r) | _ => none
  | .ineg => match st with | .int x :: r => some (.int (-x) :: r) | _ => none
  | .i2l => match st with | .int x :: r => some (.long x.toInt64 :: r) | _ => none
  | .l2i => match st with | .long x :: r => some (.int x.toInt32 :: r) | _ => none
  | .ladd => match st with | .long y :: .long x :: r => some (.long (x + y) :: r) | _ => none
  | .lmul => match st with | .long y :: .long x :: r => some (.long (x * y) :: r) | _ => none
  | .lcmp => match st with | .long y :: .long x :: r => some (.int (lg_cmp x y) :: r) | _ => none
  | .dup => match st with | .int x :: r => some (.int x :: .int x :: r) | .ref x :: r => some (.ref x :: .ref x :: r) | _ => none
  | .dup2 => match st with | .int y :: .ref x :: r => some (.int y :: .ref x :: .int y :: .ref x :: r) | _ => none
  | .pop => match st with | .int _ :: r => some r | .ref _ :: r => some r | _ => none
  | _ => none
/-- a branch: taken, not taken -/
def mbr (k : Jvm.ClassFile.Cond) (x y : Int32) (t f : Prop) : Prop := match k with
  | .eq => (x = y → t) ∧ (¬ x = y → f)
  | .ne => (¬ x = y → t) ∧ (x = y → f)
  | .lt => (x < y → t) ∧ (¬ x < y → f)
  | .ge => (y ≤ x → t) ∧ (¬ y ≤ x → f)
  | .gt => (y < x → t) ∧ (¬ y < x → f)
  | .le => (x ≤ y → t) ∧ (¬ x ≤ y → f)
def msw (x : Int32) (J : Nat → Nat → Prop) : Int → List (Nat × Nat) → Prop
  | _, [] => True
  | z, (t, m) :: l => (x.toInt = z → J t m) ∧ msw x J (z + 1) l
/-- fields of a new object of a class (by the numbers above): none an int, some none a reference -/
def mbf : Nat → List mFs
  | 0 => [some none, some none, none, none, none]
  | 1 => [some none, some none, some none, none]
  | 2 => [none, none, some none, some none, some none, some none, some none, some none]
  | 3 => [some none, none, none]
  | 4 => [some none, none, none]
  | 5 => [some none, some none, some none]
  | 6 => [some none, some none, some none, none]
  | 7 => [some none, some none, some none, some none, some none, some none, some none, none, none, none, none, none, none, none, none, none, none, none]
  | 8 => [some none, some none, some none, none, none, none]
  | 9 => [some none, some none, some none, some none, some none, some none, some none, some none, some none, some none, some none, some none, none, none]
  | 10 => [none, some none, some none, none, some none, some none, none, some none, none, none, none, none, none, none, some none, none, none, none, some none, some none, some none, some none, some none, some none, some none]
  | _ => []
def mnew (σ : mSg) (k : Nat) : mSg := fun b => if b = k then fun _ => 0 else σ b
/-- what a read-only row holds: 1200 what the rat has; 1201 the script -/
def mro (scr : Nat × (Nat → Int32)) : Nat → Option (Nat × (Nat → Int32))
  | 1200 => some (4, fun i => match i with | 0 => 1 | 1 => 0 | 2 => -1 | _ => 2)
  | 1201 => some scr
  | _ => none
end
section
/-! THE WORLD of the mini machine in the heap -/
def mvm (ad : Nat → Nat) : Value → Value
  | .ref r => .ref (ad r)
  | v => v
def mfe (ad : Nat → Nat) (f : Nat → Int32) (k : Nat) : mFs → Value
  | none => .int (f k)
  | some none => .null
  | some (some r) => .ref (ad r)
def mfv (ad : Nat → Nat) (f : Nat → Int32) : Nat → List mFs → List Value
  | _, [] => []
  | i, x :: l => mfe ad f i x :: mfv ad f (i + 1) l
abbrev mCy : Type := ClassId × ClassId × ClassId
def mce (cy : mCy) (ad : Nat → Nat) (s : mSh) (f : Nat → Int32) : va_E := match s with
  | .inl (c, fs) => .inr (c, mfv ad f 0 fs)
  | .inr (.inl n) => .inl (cy.1, n, .inl f)
  | .inr (.inr (.inl n)) => .inl (cy.2.1, n, .inr (.inl (fun i => (f i).toInt64)))
  | .inr (.inr (.inr rs)) => .inl (cy.2.2, rs.length, .inr (.inr (.inr (.inr (fun i => ((rs[i]?).getD none).map ad)))))
def mwd (cy : mCy) (ad : Nat → Nat) (σ : mSg) : Nat → List mSh → va_W
  | _, [] => []
  | i, s :: l => (ad i, mce cy ad s (σ i)) :: mwd cy ad σ (i + 1) l
theorem mnx_eq {α : Type} : ∀ (l : List α) (k : Nat), mnx l k = l[k]?
  | [], _ => rfl
  | _ :: _, 0 => rfl
  | _ :: l, k + 1 => by rw [mnx, mnx_eq l k]; rfl
theorem mse_eq {α : Type} : ∀ (l : List α) (k : Nat) (v : α), mse l k v = l.set k v
  | [], _, _ => rfl
  | _ :: _, 0, _ => rfl
  | _ :: l, k + 1, v => by rw [mse, mse_eq l k v]; rfl
theorem mfv_get (ad : Nat → Nat) (f : Nat → Int32) : ∀ (l : List mFs) (i k : Nat), (mfv ad f i l)[k]? = (l[k]?).map (mfe ad f (i + k))
  | [], _, _ => rfl
  | _ :: _, _, 0 => rfl
  | _ :: l, i, k + 1 => by
    rw [mfv, List.getElem?_cons_succ, List.getElem?_cons_succ, mfv_get ad f l (i + 1) k, Nat.add_right_comm]; rfl
theorem mfv_len (ad : Nat → Nat) (f : Nat → Int32) : ∀ (l : List mFs) (i : Nat), (mfv ad f i l).length = l.length
  | [], _ => rfl
  | _ :: l, i => by rw [mfv, List.length_cons, List.length_cons, mfv_len ad f l (i + 1)]
theorem mwd_get (cy : mCy) (ad : Nat → Nat) (σ : mSg) : ∀ (l : List mSh) (i k : Nat), (mwd cy ad σ i l)[k]? = (l[k]?).map (fun s => (ad (i + k), mce cy ad s (σ (i + k))))
  | [], _, _ => rfl
  | _ :: _, _, 0 => rfl
  | _ :: l, i, k + 1 => by
    rw [mwd, List.getElem?_cons_succ, List.getElem?_cons_succ, mwd_get cy ad σ l (i + 1) k, Nat.add_right_comm]; rfl
theorem mwd_len (cy : mCy) (ad : Nat → Nat) (σ : mSg) : ∀ (l : List mSh) (i : Nat), (mwd cy ad σ i l).length = l.length
  | [], _ => rfl
  | _ :: l, i => by rw [mwd, List.length_cons, List.length_cons, mwd_len cy ad σ l (i + 1)]
theorem mwd_at {cy : mCy} {ad : Nat → Nat} {σ : mSg} {sh : List mSh} {k : Nat} {s : mSh} (h : sh[k]? = some s) : (mwd cy ad σ 0 sh)[k]? = some (ad k, mce cy ad s (σ k)) := by
  rw [mwd_get, h, Nat.zero_add]; rfl
theorem mwd_of {cy : mCy} {ad : Nat → Nat} {σ : mSg} {sh : List mSh} {k : Nat} {q : Nat × va_E} (h : (mwd cy ad σ 0 sh)[k]? = some q) : ∃ s, sh[k]? = some s ∧ q = (ad k, mce cy ad s (σ k)) := by
  rw [mwd_get, Nat.zero_add] at h
  cases hs : sh[k]? with
  | none => rw [hs] at h; cases h
  | some s => rw [hs] at h; exact ⟨s, rfl, (Option.some.inj h).symm⟩
/-- ints of a field or a row are told -/
theorem mwd_set {cy : mCy} {ad : Nat → Nat} {σ σ2 : mSg} {sh sh2 : List mSh} {k : Nat} {s2 : mSh} {e : va_E} (hk : k < sh.length) (h2 : sh2 = sh.set k s2) (he : e = mce cy ad s2 (σ2 k)) (ho : ∀ b, b ≠ k → σ2 b = σ b) : (mwd cy ad σ 0 sh).set k (ad k, e) = mwd cy ad σ2 0 sh2 := by
  subst h2
  refine List.ext_getElem? fun j => ?_
  by_cases hj : k = j
  · subst hj
    rw [List.getElem?_set_self (by rw [mwd_len]; exact hk), mwd_get, List.getElem?_set_self hk, he, Nat.zero_add]; rfl
  · rw [List.getElem?_set_ne hj, mwd_get, mwd_get, List.getElem?_set_ne hj, Nat.zero_add, ho j (Ne.symm hj)]
theorem mwd_set0 {cy : mCy} {ad : Nat → Nat} {σ σ2 : mSg} {sh : List mSh} {k : Nat} {s : mSh} {e : va_E} (hs : sh[k]? = some s) (he : e = mce cy ad s (σ2 k)) (ho : ∀ b, b ≠ k → σ2 b = σ b) : (mwd cy ad σ 0 sh).set k (ad k, e) = mwd cy ad σ2 0 sh := by
  have hk := (List.getElem?_eq_some_iff.mp hs).1
  refine mwd_set hk ?_ he ho
  refine List.ext_getElem? fun j => ?_
  by_cases hj : k = j
  · subst hj; rw [List.getElem?_set_self hk, hs]
  · rw [List.getElem?_set_ne hj]
theorem mput_ne {σ : mSg} {a i : Nat} {v : Int32} {b : Nat} (h : b ≠ a) : mput σ a i v b = σ b := by unfold mput; rw [if_neg h]
theorem mput_eq {σ : mSg} {a i : Nat} {v : Int32} : mput σ a i v a = upd (σ a) i v := by unfold mput; rw [if_pos rfl]
theorem mfv_put {ad : Nat → Nat} {f : Nat → Int32} {fs : List mFs} {b : Nat} {x : Int32} (h : fs[b]? = some none) : (mfv ad f 0 fs).set b (.int x) = mfv ad (upd f b x) 0 fs := by
  have hb := (List.getElem?_eq_some_iff.mp h).1
  refine List.ext_getElem? fun j => ?_
  by_cases hj : b = j
  · subst hj
    rw [List.getElem?_set_self (by rw [mfv_len]; exact hb), mfv_get, h, Nat.zero_add]
    simp [mfe, upd]
  · rw [List.getElem?_set_ne hj, mfv_get, mfv_get, Nat.zero_add]
    cases fs[j]? with
    | none => rfl
    | some y => cases y with
      | none => simp [mfe, upd, Ne.symm hj]
      | some z => cases z <;> rfl
theorem mfv_putR {ad : Nat → Nat} {f : Nat → Int32} {fs : List mFs} {b q : Nat} (hb : b < fs.length) : (mfv ad f 0 fs).set b (.ref (ad q)) = mfv ad f 0 (fs.set b (some (some q))) := by
  refine List.ext_getElem? fun j => ?_
  by_cases hj : b = j
  · subst hj
    rw [List.getElem?_set_self (by rw [mfv_len]; exact hb), mfv_get, List.getElem?_set_self hb]; rfl
  · rw [List.getElem?_set_ne hj, mfv_get, mfv_get, List.getElem?_set_ne hj]
/-- only the addresses matter for being apart -/
theorem mD_eq {cy : mCy} {ad : Nat → Nat} {σ σ2 : mSg} {sh sh2 : List mSh} {A : Nat → Prop} (h : va_D A (mwd cy ad σ 0 sh)) (hl : sh2.length = sh.length) : va_D A (mwd cy ad σ2 0 sh2) := by
  have key : ∀ (k : Nat) (q : Nat × va_E), (mwd cy ad σ2 0 sh2)[k]? = some q → ∃ q2 : Nat × va_E, (mwd cy ad σ 0 sh)[k]? = some q2 ∧ q2.1 = q.1 := by
    intro k q hq
    obtain ⟨s, hs, rfl⟩ := mwd_of hq
    have hk := (List.getElem?_eq_some_iff.mp hs).1
    rw [hl] at hk
    exact ⟨_, mwd_at (List.getElem?_eq_getElem hk), rfl⟩
  refine ⟨fun i j p q hp hq e => ?_, fun k q hq => ?_⟩
  · obtain ⟨p2, h1, e1⟩ := key i p hp
    obtain ⟨q2, h2, e2⟩ := key j q hq
    exact h.1 i j p2 q2 h1 h2 (by rw [e1, e2, e])
  · obtain ⟨q2, h2, e2⟩ := key k q hq
    rw [← e2]; exact h.2 k q2 h2
theorem mD_inj {cy : mCy} {ad : Nat → Nat} {σ : mSg} {sh : List mSh} {A : Nat → Prop} (h : va_D A (mwd cy ad σ 0 sh)) {i j : Nat} (hi : i < sh.length) (hj : j < sh.length) (e : ad i = ad j) : i = j :=
  h.1 i j _ _ (mwd_at (List.getElem?_eq_getElem hi)) (mwd_at (List.getElem?_eq_getElem hj)) e
/-- a new cell -/
theorem mokF_lt {n : Nat} : ∀ {fs : List mFs}, mokF n fs = true → ∀ (k r : Nat), fs[k]? = some (some (some r)) → r < n
  | [], _, k, r, h => by simp at h
  | x :: l, ho, 0, r, h => by
    rw [List.getElem?_cons_zero] at h
    cases h
    simp only [mokF, Bool.and_eq_true] at ho
    exact Nat.le_of_ble_eq_true ho.1
  | x :: l, ho, k + 1, r, h => by
    rw [List.getElem?_cons_succ] at h
    refine mokF_lt (fs := l) ?_ k r h
    cases x with
    | none => exact ho
    | some y => cases y with
      | none => exact ho
      | some z => simp only [mokF, Bool.and_eq_true] at ho; exact ho.2
theorem mokR_lt {n : Nat} : ∀ {rs : List (Option Nat)}, mokR n rs = true → ∀ (k r : Nat), rs[k]? = some (some r) → r < n
  | [], _, k, r, h => by simp at h
  | x :: l, ho, 0, r, h => by
    rw [List.getElem?_cons_zero] at h
    cases h
    simp only [mokR, Bool.and_eq_true] at ho
    exact Nat.le_of_ble_eq_true ho.1
  | x :: l, ho, k + 1, r, h => by
    rw [List.getElem?_cons_succ] at h
    refine mokR_lt (rs := l) ?_ k r h
    cases x with
    | none => exact ho
    | some y => simp only [mokR, Bool.and_eq_true] at ho; exact ho.2
theorem mokS_at {n : Nat} : ∀ {sh : List mSh}, mokS n sh = true → ∀ (k : Nat) (s : mSh), sh[k]? = some s → mokS n [s] = true
  | [], _, k, s, h => by simp at h
  | x :: l, ho, 0, s, h => by
    rw [List.getElem?_cons_zero] at h
    cases h
    rcases x with ⟨c, fs⟩ | n1 | n2 | rs <;> simp_all [mokS]
  | x :: l, ho, k + 1, s, h => by
    rw [List.getElem?_cons_succ] at h
    refine mokS_at (sh := l) ?_ k s h
    rcases x with ⟨c, fs⟩ | n1 | n2 | rs <;> simp_all [mokS]
theorem mce_ad {cy : mCy} {ad ad2 : Nat → Nat} {n : Nat} {s : mSh} {f : Nat → Int32} (ho : mokS n [s] = true) (h : ∀ r, r < n → ad2 r = ad r) : mce cy ad2 s f = mce cy ad s f := by
  rcases s with ⟨c, fs⟩ | n1 | n2 | rs
  · have ho : mokF n fs = true := by simpa [mokS] using ho
    have e : mfv ad2 f 0 fs = mfv ad f 0 fs := by
      refine List.ext_getElem? fun j => ?_
      rw [mfv_get, mfv_get]
      cases hj : fs[j]? with
      | none => rfl
      | some y => cases y with
        | none => rfl
        | some z => cases z with
          | none => rfl
          | some r => simp [mfe, h r (mokF_lt ho j r hj)]
    simp only [mce, e]
  · rfl
  · rfl
  · have ho : mokR n rs = true := by simpa [mokS] using ho
    have e : (fun i : Nat => ((rs[i]?).getD none).map ad2) = fun i : Nat => ((rs[i]?).getD none).map ad := by
      funext i
      cases hj : rs[i]? with
      | none => rfl
      | some y => cases y with
        | none => rfl
        | some r => simp [h r (mokR_lt ho i r hj)]
    simp only [mce, e]
theorem mwd_push {cy : mCy} {ad : Nat → Nat} {σ : mSg} {sh : List mSh} {q : Nat} {s : mSh} {e : va_E} (ho : mokS sh.length sh = true) (hs : mokS sh.length [s] = true) (he : e = mce cy ad s (fun _ => 0)) : mwd cy ad σ 0 sh ++ [(q, e)] = mwd cy (va_up ad sh.length q) (mnew σ sh.length) 0 (sh ++ [s]) := by
  have hup : ∀ r, r < sh.length → va_up ad sh.length q r = ad r := fun r hr => by unfold va_up; rw [if_neg (by omega)]
  refine List.ext_getElem? fun j => ?_
  rcases Nat.lt_trichotomy j sh.length with h | h | h
  · rw [List.getElem?_append_left (by rw [mwd_len]; exact h), mwd_get, mwd_get, List.getElem?_append_left h, List.getElem?_eq_getElem h]
    have hn : mnew σ sh.length j = σ j := by unfold mnew; rw [if_neg (by omega)]
    simp only [Option.map_some, Nat.zero_add]
    rw [hup j h, hn, mce_ad (mokS_at ho j _ (List.getElem?_eq_getElem h)) hup]
  · subst h
    rw [List.getElem?_append_right (by rw [mwd_len]; exact Nat.le_refl _), mwd_get, List.getElem?_append_right (Nat.le_refl _), mwd_len, Nat.sub_self]
    have hn : mnew σ sh.length sh.length = fun _ => 0 := by unfold mnew; rw [if_pos rfl]
    have hq : va_up ad sh.length q sh.length = q := by unfold va_up; rw [if_pos rfl]
    simp only [List.getElem?_cons_zero, Option.map_some, Nat.zero_add]
    rw [hq, hn, mce_ad hs hup, he]
  · rw [List.getElem?_eq_none (by rw [List.length_append, mwd_len]; simp; omega), List.getElem?_eq_none (by rw [mwd_len, List.length_append]; simp; omega)]
theorem mvm_ok {n : Nat} {ad ad2 : Nat → Nat} (h : ∀ r, (r < n ∨ 1000 ≤ r) → ad2 r = ad r) : ∀ {st : List Value}, mokV n st = true → st.map (mvm ad2) = st.map (mvm ad)
  | [], _ => rfl
  | v :: l, ho => by
    cases v with
    | ref r =>
      simp only [mokV, Bool.and_eq_true, Bool.or_eq_true] at ho
      have h1 : ad2 r = ad r := h r (ho.1.imp Nat.le_of_ble_eq_true Nat.le_of_ble_eq_true)
      rw [List.map_cons, List.map_cons, mvm_ok h ho.2]; simp only [mvm, h1]
    | _ =>
      have e := mvm_ok h (st := l) ho
      rw [List.map_cons, List.map_cons, e]; rfl
/-- the locals -/
def mLR (ad : Nat → Nat) (ls : Array Slot) (nL : Nat) (L : mLc) : Prop := ls.size = nL ∧ lv_wf ls ∧ ∀ (i : Nat) (v : Value), L[i]? = some (some v) → ls[i]? = some (.val (mvm ad v))
theorem mLR_ok {n nL : Nat} {ad ad2 : Nat → Nat} {ls : Array Slot} (h : ∀ r, (r < n ∨ 1000 ≤ r) → ad2 r = ad r) {L : mLc} (ho : mokL n L = true) (hL : mLR ad ls nL L) : mLR ad2 ls nL L := by
  refine ⟨hL.1, hL.2.1, fun i v hv => ?_⟩
  have key : ∀ (L : mLc), mokL n L = true → ∀ (i r : Nat), L[i]? = some (some (.ref r)) → ad2 r = ad r := by
    intro L
    induction L with
    | nil => intro _ i r h; simp at h
    | cons x l ih =>
      intro ho i r hr
      cases i with
      | zero =>
        rw [List.getElem?_cons_zero] at hr
        cases hr
        simp only [mokL, Bool.and_eq_true, Bool.or_eq_true] at ho
        exact h r (ho.1.imp Nat.le_of_ble_eq_true Nat.le_of_ble_eq_true)
      | succ i =>
        rw [List.getElem?_cons_succ] at hr
        refine ih ?_ i r hr
        cases x with
        | none => exact ho
        | some y => cases y with
          | ref q => simp only [mokL, Bool.and_eq_true] at ho; exact ho.2
          | _ => exact ho
  rw [hL.2.2 i v hv]
  cases v with
  | ref r => simp only [mvm, key L ho i r hv]
  | _ => rfl
theorem mkl_at : ∀ (L : mLc) (m i : Nat) (v : Value), (mkl m L)[i]? = some (some v) → L[i]? = some (some v)
  | [], _, i, v, h => by simp [mkl] at h
  | x :: L, m, 0, v, h => by
    simp only [mkl, List.getElem?_cons_zero] at h ⊢
    split at h
    · cases h
    · exact h
  | x :: L, m, i + 1, v, h => by
    simp only [mkl, List.getElem?_cons_succ] at h ⊢
    exact mkl_at L _ i v h
theorem mLR_kl {ad : Nat → Nat} {ls : Array Slot} {nL : Nat} {L : mLc} (m : Nat) (h : mLR ad ls nL L) : mLR ad ls nL (mkl m L) := ⟨h.1, h.2.1, fun i v hv => h.2.2 i v (mkl_at L m i v hv)⟩
def mas (ad : Nat → Nat) (L : mLc) : List (Nat × Value) := (List.range L.length).filterMap fun i => match L[i]? with | some (some v) => some (i, mvm ad v) | _ => none
theorem mas_mem {ad : Nat → Nat} {L : mLc} {i : Nat} {w : Value} : (i, w) ∈ mas ad L ↔ ∃ v, L[i]? = some (some v) ∧ w = mvm ad v := by
  unfold mas
  rw [List.mem_filterMap]
  constructor
  · rintro ⟨j, -, h⟩
    cases hj : L[j]? with
    | none => rw [hj] at h; cases h
    | some y => cases y with
      | none => rw [hj] at h; cases h
      | some v => rw [hj] at h; cases h; exact ⟨v, hj, rfl⟩
  · rintro ⟨v, hv, rfl⟩
    exact ⟨i, List.mem_range.mpr (List.getElem?_eq_some_iff.mp hv).1, by rw [hv]⟩
theorem mLR_has {ad : Nat → Nat} {ls : Array Slot} {nL : Nat} {L : mLc} (h : mLR ad ls nL L) : lv_has ls nL (mas ad L) := ⟨h.1, h.2.1, fun q hq => by
  obtain ⟨v, hv, e⟩ := mas_mem.mp (show (q.1, q.2) ∈ mas ad L from hq)
  rw [e]; exact h.2.2 q.1 v hv⟩
theorem mvm_cat (ad : Nat → Nat) (v : Value) : (mvm ad v).category = v.category := by cases v <;> rfl
theorem mclr_at : ∀ (L : mLc) (n i : Nat) (v : Value), (mclr L n)[i]? = some (some v) → L[i]? = some (some v) ∧ (i + 1 = n → ¬ v.category = 2)
  | [], n, i, v, h => by simp [mclr] at h
  | a :: L, 0, i, v, h => ⟨h, fun e => by omega⟩
  | a :: L, 1, 0, v, h => by
    simp only [mclr, List.getElem?_cons_zero] at h ⊢
    split at h
    · cases h
    · cases h
    · rename_i h1 h2
      refine ⟨h, fun _ => ?_⟩
      cases h
      cases v with
      | long z => exact absurd rfl (h1 z)
      | double z => exact absurd rfl (h2 z)
      | _ => simp [Value.category]
  | a :: L, 1, i + 1, v, h => by
    simp only [mclr, List.getElem?_cons_succ] at h ⊢
    exact ⟨h, fun e => by omega⟩
  | a :: L, n + 2, 0, v, h => by
    simp only [mclr, List.getElem?_cons_zero] at h ⊢
    exact ⟨h, fun e => by omega⟩
  | a :: L, n + 2, i + 1, v, h => by
    simp only [mclr, List.getElem?_cons_succ] at h ⊢
    obtain ⟨h1, h2⟩ := mclr_at L (n + 1) i v h
    exact ⟨h1, fun e => h2 (by omega)⟩
theorem mst1_at {L : mLc} {n i : Nat} {w v : Value} (h : (mst1 L n w)[i]? = some (some v)) : (i = n ∧ v = w) ∨ (i ≠ n ∧ L[i]? = some (some v) ∧ (i + 1 = n → ¬ v.category = 2)) := by
  unfold mst1 at h
  rw [mse_eq] at h
  by_cases e : n = i
  · subst e
    have hl : n < ((mclr L n).set n (some w)).length := (List.getElem?_eq_some_iff.mp h).1
    rw [List.length_set] at hl
    rw [List.getElem?_set_self hl] at h
    cases h
    exact Or.inl ⟨rfl, rfl⟩
  · rw [List.getElem?_set_ne e] at h
    obtain ⟨h1, h2⟩ := mclr_at L n i v h
    exact Or.inr ⟨Ne.symm e, h1, h2⟩
theorem mst2_at {L : mLc} {n i : Nat} {w v : Value} (h : (mst2 L n w)[i]? = some (some v)) : (i = n ∧ v = w) ∨ (i ≠ n ∧ i ≠ n + 1 ∧ L[i]? = some (some v) ∧ (i + 1 = n → ¬ v.category = 2)) := by
  unfold mst2 at h
  rw [mse_eq, mse_eq] at h
  by_cases e : n + 1 = i
  · subst e
    have hl := (List.getElem?_eq_some_iff.mp h).1
    rw [List.length_set] at hl
    rw [List.getElem?_set_self hl] at h
    cases h
  · rw [List.getElem?_set_ne e] at h
    by_cases e2 : n = i
    · subst e2
      have hl := (List.getElem?_eq_some_iff.mp h).1
      rw [List.length_set] at hl
      rw [List.getElem?_set_self hl] at h
      cases h
      exact Or.inl ⟨rfl, rfl⟩
    · rw [List.getElem?_set_ne e2] at h
      obtain ⟨h1, h2⟩ := mclr_at L n i v h
      exact Or.inr ⟨Ne.symm e2, Ne.symm e, h1, h2⟩
theorem mLR_st1 {ad : Nat → Nat} {ls' : Array Slot} {nL i : Nat} {L : mLc} {v : Value} (h : lv_has ls' nL ((i, mvm ad v) :: (mas ad L).filter (fun q => !(q.1 == i) && !(q.1 + 1 == i && q.2.category == 2)))) : mLR ad ls' nL (mst1 L i v) := by
  refine ⟨h.1, h.2.1, fun j w hw => ?_⟩
  rcases mst1_at hw with ⟨rfl, rfl⟩ | ⟨h1, h2, h3⟩
  · exact h.2.2 (j, _) List.mem_cons_self
  · refine h.2.2 (j, mvm ad w) (List.mem_cons_of_mem _ (List.mem_filter.mpr ⟨mas_mem.mpr ⟨w, h2, rfl⟩, ?_⟩))
    by_cases e : j + 1 = i
    · simp [h1, mvm_cat, h3 e]
    · simp [h1, e]
theorem mLR_st2 {ad : Nat → Nat} {ls' : Array Slot} {nL i : Nat} {L : mLc} {v : Value} (h : lv_has ls' nL ((i, mvm ad v) :: (mas ad L).filter (fun q => !(q.1 == i) && (!(q.1 == i + 1) && !(q.1 + 1 == i && q.2.category == 2))))) : mLR ad ls' nL (mst2 L i v) := by
  refine ⟨h.1, h.2.1, fun j w hw => ?_⟩
  rcases mst2_at hw with ⟨rfl, rfl⟩ | ⟨h1, h4, h2, h3⟩
  · exact h.2.2 (j, _) List.mem_cons_self
  · refine h.2.2 (j, mvm ad w) (List.mem_cons_of_mem _ (List.mem_filter.mpr ⟨mas_mem.mpr ⟨w, h2, rfl⟩, ?_⟩))
    by_cases e : j + 1 = i
    · simp [h1, h4, mvm_cat, h3 e]
    · simp [h1, h4, e]
end
section
/-! A PART OF THE WORLD, as a callee sees it -/
theorem mlo_gl : ∀ (rg : List (Nat × Nat)) (a j : Nat), mlo rg a = some j → mgl rg j = a ∧ j < mtot rg
  | [], a, j, h => by simp [mlo] at h
  | (k, n) :: r, a, j, h => by
    simp only [mlo] at h
    split at h
    · rename_i hb
      rw [Bool.and_eq_true] at hb
      have h1 : k ≤ a := Nat.le_of_ble_eq_true hb.1
      have h2 : a < k + n := Nat.le_of_ble_eq_true hb.2
      cases h
      have hb2 : Nat.blt (a - k) n = true := Nat.ble_eq_true_of_le (by omega)
      refine ⟨?_, by simp only [mtot]; omega⟩
      simp only [mgl, hb2]
      omega
    · split at h
      · rename_i j2 hj2
        cases h
        obtain ⟨h1, h2⟩ := mlo_gl r a j2 hj2
        have hb2 : Nat.blt (j2 + n) n = false := by
          cases hq : Nat.blt (j2 + n) n with
          | false => rfl
          | true => exact absurd (Nat.le_of_ble_eq_true hq) (by omega)
        refine ⟨?_, by simp only [mtot]; omega⟩
        simp only [mgl, hb2]
        rw [Nat.add_sub_cancel]; exact h1
      · cases h
theorem map1_out (k n : Nat) : ∀ (r : List (Nat × Nat)), map1 k n r = true → ∀ j, j < mtot r → mgl r j < k ∨ k + n ≤ mgl r j
  | [], _, j, h => by simp [mtot] at h
  | (k2, n2) :: r, hm, j, h => by
    simp only [map1, Bool.and_eq_true, Bool.or_eq_true] at hm
    simp only [mtot] at h
    simp only [mgl]
    split
    · rename_i hb
      have h1 : j < n2 := Nat.le_of_ble_eq_true hb
      rcases hm.1 with q | q
      · have := Nat.le_of_ble_eq_true q; right; omega
      · have := Nat.le_of_ble_eq_true q; left; omega
    · rename_i hb
      have h1 : n2 ≤ j := by
        rcases Nat.lt_or_ge j n2 with q | q
        · exact absurd (Nat.ble_eq_true_of_le q) (by rw [show Nat.ble (j + 1) n2 = Nat.blt j n2 from rfl, hb]; simp)
        · exact q
      exact map1_out k n r hm.2 (j - n2) (by omega)
theorem mgl_lo (N : Nat) : ∀ (rg : List (Nat × Nat)), mapt N rg = true → ∀ j, j < mtot rg → mlo rg (mgl rg j) = some j ∧ mgl rg j < N
  | [], _, j, h => by simp [mtot] at h
  | (k, n) :: r, hm, j, h => by
    simp only [mapt, Bool.and_eq_true] at hm
    simp only [mtot] at h
    have hN := Nat.le_of_ble_eq_true hm.1
    by_cases hj : j < n
    · have hb : Nat.blt j n = true := Nat.ble_eq_true_of_le hj
      have e : mgl ((k, n) :: r) j = k + j := by simp only [mgl, hb]
      rw [e]
      refine ⟨?_, by omega⟩
      have h1 : Nat.ble k (k + j) = true := Nat.ble_eq_true_of_le (by omega)
      have h2 : Nat.blt (k + j) (k + n) = true := Nat.ble_eq_true_of_le (by omega)
      simp only [mlo, h1, h2, Bool.and_self]
      rw [Nat.add_sub_cancel_left]
    · have hb : Nat.blt j n = false := by
        cases hq : Nat.blt j n with
        | false => rfl
        | true => exact absurd (Nat.le_of_ble_eq_true hq) hj
      have e : mgl ((k, n) :: r) j = mgl r (j - n) := by simp only [mgl, hb]
      rw [e]
      obtain ⟨h1, h2⟩ := mgl_lo N r hm.2.2 (j - n) (by omega)
      refine ⟨?_, h2⟩
      have ho := map1_out k n r hm.2.1 (j - n) (by omega)
      have h3 : (Nat.ble k (mgl r (j - n)) && Nat.blt (mgl r (j - n)) (k + n)) = false := by
        cases hq : (Nat.ble k (mgl r (j - n)) && Nat.blt (mgl r (j - n)) (k + n)) with
        | false => rfl
        | true =>
          rw [Bool.and_eq_true] at hq
          have a1 := Nat.le_of_ble_eq_true hq.1
          have a2 := Nat.le_of_ble_eq_true hq.2
          exact absurd ho (by omega)
      simp only [mlo, h3, h1]
      rw [Nat.sub_add_cancel (by omega)]
/-- addresses by the callee's numbers -/
def mal (rg : List (Nat × Nat)) (ad : Nat → Nat) : Nat → Nat := fun j => if 1000 ≤ j then ad j else ad (mgl rg j)
theorem mal_lo {rg : List (Nat × Nat)} {ad : Nat → Nat} {q j : Nat} (h : mlo rg q = some j) (hm : mtot rg ≤ 1000) : mal rg ad j = ad q := by
  obtain ⟨h1, h2⟩ := mlo_gl rg q j h
  unfold mal
  rw [if_neg (by omega), h1]
theorem mckF_eq {rg : List (Nat × Nat)} {ad : Nat → Nat} {f : Nat → Int32} (hm : mtot rg ≤ 1000) : ∀ (a b : List mFs) (i : Nat), mckF rg a b = true → mfv ad f i a = mfv (mal rg ad) f i b
  | [], [], _, _ => rfl
  | none :: a, none :: b, i, h => by simp only [mfv, mfe]; rw [mckF_eq hm a b (i + 1) h]
  | some none :: a, some none :: b, i, h => by simp only [mfv, mfe]; rw [mckF_eq hm a b (i + 1) h]
  | some (some q) :: a, some (some q2) :: b, i, h => by
    simp only [mckF] at h
    split at h
    · rename_i j hj
      rw [Bool.and_eq_true] at h
      have e := Nat.eq_of_beq_eq_true h.1
      subst e
      simp only [mfv, mfe]
      rw [mckF_eq hm a b (i + 1) h.2, mal_lo hj hm]
    · cases h
  | [], _ :: _, _, h => by simp [mckF] at h
  | _ :: _, [], _, h => by simp [mckF] at h
  | none :: _, some _ :: _, _, h => by simp [mckF] at h
  | some none :: _, none :: _, _, h => by simp [mckF] at h
  | some none :: _, some (some _) :: _, _, h => by simp [mckF] at h
  | some (some _) :: _, none :: _, _, h => by simp [mckF] at h
  | some (some _) :: _, some none :: _, _, h => by simp [mckF] at h
theorem mckR_eq {rg : List (Nat × Nat)} {ad : Nat → Nat} (hm : mtot rg ≤ 1000) : ∀ (a b : List (Option Nat)), mckR rg a b = true → a.length = b.length ∧ ∀ i : Nat, ((a[i]?).getD none).map ad = ((b[i]?).getD none).map (mal rg ad)
  | [], [], _ => ⟨rfl, fun _ => rfl⟩
  | none :: a, none :: b, h => by
    obtain ⟨h1, h2⟩ := mckR_eq hm a b h
    exact ⟨by simp [h1], fun i => by cases i with | zero => rfl | succ i => simpa using h2 i⟩
  | some q :: a, some q2 :: b, h => by
    simp only [mckR] at h
    split at h
    · rename_i j hj
      rw [Bool.and_eq_true] at h
      have e := Nat.eq_of_beq_eq_true h.1
      subst e
      obtain ⟨h1, h2⟩ := mckR_eq hm a b h.2
      exact ⟨by simp [h1], fun i => by cases i with | zero => simp [mal_lo hj hm] | succ i => simpa using h2 i⟩
    · cases h
  | [], _ :: _, h => by simp [mckR] at h
  | _ :: _, [], h => by simp [mckR] at h
  | none :: _, some _ :: _, h => by simp [mckR] at h
  | some _ :: _, none :: _, h => by simp [mckR] at h
theorem mck1_eq {cy : mCy} {rg : List (Nat × Nat)} {ad : Nat → Nat} (hm : mtot rg ≤ 1000) {o : Option mSh} {s : mSh} (h : mck1 rg o s = true) : ∃ s0, o = some s0 ∧ ∀ f, mce cy ad s0 f = mce cy (mal rg ad) s f := by
  rcases o with _ | (⟨c, fs⟩ | n1 | n2 | rs) <;> rcases s with ⟨c', fs'⟩ | m1 | m2 | rs' <;> simp only [mck1, Bool.and_eq_true, Bool.false_eq_true] at h
  · have e := Nat.eq_of_beq_eq_true h.1
    subst e
    exact ⟨_, rfl, fun f => by simp only [mce]; rw [mckF_eq hm fs fs' 0 h.2]⟩
  · have e := Nat.eq_of_beq_eq_true h
    subst e
    exact ⟨_, rfl, fun f => rfl⟩
  · have e := Nat.eq_of_beq_eq_true h
    subst e
    exact ⟨_, rfl, fun f => rfl⟩
  · obtain ⟨h1, h2⟩ := mckR_eq (ad := ad) hm rs rs' h
    refine ⟨_, rfl, fun f => ?_⟩
    have e : (fun i : Nat => ((rs[i]?).getD none).map ad) = fun i : Nat => ((rs'[i]?).getD none).map (mal rg ad) := funext h2
    simp only [mce, e, h1]
theorem mckA_eq {cy : mCy} {rg : List (Nat × Nat)} {ad : Nat → Nat} {sh : List mSh} (hm : mtot rg ≤ 1000) : ∀ (l : List mSh) (i : Nat), mckA rg sh i l = true → ∀ (j : Nat) (s : mSh), l[j]? = some s → ∃ s0, sh[mgl rg (i + j)]? = some s0 ∧ ∀ f, mce cy ad s0 f = mce cy (mal rg ad) s f
  | [], _, _, j, s, h => by simp at h
  | x :: l, i, hc, 0, s, h => by
    simp only [mckA, Bool.and_eq_true] at hc
    rw [List.getElem?_cons_zero] at h
    cases h
    obtain ⟨s0, h1, h2⟩ := mck1_eq (cy := cy) (ad := ad) hm hc.1
    exact ⟨s0, by rw [Nat.add_zero, ← mnx_eq]; exact h1, h2⟩
  | x :: l, i, hc, j + 1, s, h => by
    simp only [mckA, Bool.and_eq_true] at hc
    rw [List.getElem?_cons_succ] at h
    obtain ⟨s0, h1, h2⟩ := mckA_eq hm l (i + 1) hc.2 j s h
    exact ⟨s0, by rw [show i + (j + 1) = i + 1 + j by omega]; exact h1, h2⟩
theorem mck_spec {rg : List (Nat × Nat)} {sh shl : List mSh} (h : mck rg sh shl = true) : mtot rg = shl.length ∧ mtot rg ≤ 1000 ∧ mapt sh.length rg = true ∧ mckA rg sh 0 shl = true := by
  simp only [mck, Bool.and_eq_true] at h
  exact ⟨Nat.eq_of_beq_eq_true h.1.1, Nat.le_of_ble_eq_true h.1.2.1, h.1.2.2, h.2⟩
/-- the callee's world -/
theorem mpart_P {cy : mCy} {D : va_G} {cl : List vw_C} {rg : List (Nat × Nat)} {ad : Nat → Nat} {σ : mSg} {sh shl : List mSh} {H : Heap} (h : mck rg sh shl = true) (hP : va_P D cl (mwd cy ad σ 0 sh) H) : va_P D cl (mwd cy (mal rg ad) (fun j => σ (mgl rg j)) 0 shl) H := by
  obtain ⟨h1, h2, h3, h4⟩ := mck_spec h
  intro k q hk
  obtain ⟨s, hs, rfl⟩ := mwd_of hk
  have hkl := (List.getElem?_eq_some_iff.mp hs).1
  obtain ⟨s0, hs0, he⟩ := mckA_eq (cy := cy) (ad := ad) h2 shl 0 h4 k s hs
  rw [Nat.zero_add] at hs0
  have hq := hP _ _ (mwd_at (cy := cy) (ad := ad) (σ := σ) hs0)
  have ea : mal rg ad k = ad (mgl rg k) := by unfold mal; rw [if_neg (by omega)]
  rw [ea, ← he]
  exact hq
theorem mpart_D {cy : mCy} {A B : Nat → Prop} {rg : List (Nat × Nat)} {ad : Nat → Nat} {σ σ2 : mSg} {sh shl : List mSh} (h : mck rg sh shl = true) (hD : va_D A (mwd cy ad σ 0 sh)) (hAB : ∀ k, k < shl.length → A (ad (mgl rg k)) → B (ad (mgl rg k))) : va_D B (mwd cy (mal rg ad) σ2 0 shl) := by
  obtain ⟨h1, h2, h3, h4⟩ := mck_spec h
  have key : ∀ k, k < shl.length → mal rg ad k = ad (mgl rg k) ∧ mgl rg k < sh.length ∧ mlo rg (mgl rg k) = some k := fun k hk => by
    obtain ⟨a1, a2⟩ := mgl_lo sh.length rg h3 k (by omega)
    exact ⟨by unfold mal; rw [if_neg (by omega)], a2, a1⟩
  refine ⟨fun i j p q hp hq e => ?_, fun k q hq => ?_⟩
  · obtain ⟨s, hs, rfl⟩ := mwd_of hp
    obtain ⟨s', hs', rfl⟩ := mwd_of hq
    obtain ⟨a1, a2, a3⟩ := key i (List.getElem?_eq_some_iff.mp hs).1
    obtain ⟨b1, b2, b3⟩ := key j (List.getElem?_eq_some_iff.mp hs').1
    have e2 : ad (mgl rg i) = ad (mgl rg j) := by rw [← a1, ← b1]; exact e
    have e3 := mD_inj hD a2 b2 e2
    rw [e3, b3] at a3
    exact (Option.some.inj a3).symm
  · obtain ⟨s, hs, rfl⟩ := mwd_of hq
    have hk := (List.getElem?_eq_some_iff.mp hs).1
    obtain ⟨a1, a2, -⟩ := key k hk
    show B (mal rg ad k)
    rw [a1]
    refine hAB k hk ?_
    exact hD.2 _ _ (mwd_at (List.getElem?_eq_getElem a2))
/-- behind the callee: its cells as it left them, the others as they were -/
theorem mpart_back {cy : mCy} {D : va_G} {cl : List vw_C} {A : Nat → Prop} {rg : List (Nat × Nat)} {ad ad2 : Nat → Nat} {σ σ2 : mSg} {sh shl sh2 : List mSh} {H H1 : Heap} (h : mck rg sh shl = true) (hP : va_P D cl (mwd cy ad σ 0 sh) H) (hD : va_D A (mwd cy ad σ 0 sh))
    (hk : ∀ q : Nat, q < H.size → ¬ va_A (mwd cy (mal rg ad) (fun j => σ (mgl rg j)) 0 shl) H.size q → H1[q]? = H[q]?) (hpre : ∀ (j : Nat) (s : mSh), shl[j]? = some s → sh2[j]? = some s) (had : ∀ i, (i < shl.length ∨ 1000 ≤ i) → ad2 i = mal rg ad i) (hrefs : ∀ (j : Nat) (s : mSh), shl[j]? = some s → ∀ f, mce cy ad2 s f = mce cy (mal rg ad) s f)
    (hP1 : va_P D cl (mwd cy ad2 σ2 0 sh2) H1) : va_P D cl (mwd cy ad (mback rg σ σ2) 0 sh) H1 := by
  obtain ⟨h1, h2, h3, h4⟩ := mck_spec h
  intro k q hkq
  obtain ⟨s, hs, rfl⟩ := mwd_of hkq
  have hkl := (List.getElem?_eq_some_iff.mp hs).1
  cases hm : mlo rg k with
  | some j =>
    obtain ⟨g1, g2⟩ := mlo_gl rg k j hm
    have hj : j < shl.length := by omega
    obtain ⟨s0, hs0, he⟩ := mckA_eq (cy := cy) (ad := ad) h2 shl 0 h4 j _ (List.getElem?_eq_getElem hj)
    rw [Nat.zero_add, g1, hs] at hs0
    cases hs0
    have hq := hP1 _ _ (mwd_at (cy := cy) (ad := ad2) (σ := σ2) (hpre j _ (List.getElem?_eq_getElem hj)))
    have ea : ad2 j = ad k := by rw [had j (Or.inl hj), mal_lo hm h2]
    have eb : mback rg σ σ2 k = σ2 j := by unfold mback; rw [hm]
    rw [eb, he, ← hrefs j _ (List.getElem?_eq_getElem hj), ← ea]
    exact hq
  | none =>
    have eb : mback rg σ σ2 k = σ k := by unfold mback; rw [hm]
    rw [eb]
    have hat := hP k _ (mwd_at (cy := cy) (ad := ad) (σ := σ) hs)
    refine hat.kept (hk _ hat.lt ?_)
    rintro (⟨j, e, hj⟩ | hsz)
    · obtain ⟨s', hs', e'⟩ := mwd_of hj
      have hjl := (List.getElem?_eq_some_iff.mp hs').1
      obtain ⟨a1, a2⟩ := mgl_lo sh.length rg h3 j (by omega)
      have ea : ad k = ad (mgl rg j) := by
        have e2 := congrArg Prod.fst e'
        have e3 : mal rg ad j = ad (mgl rg j) := by unfold mal; rw [if_neg (by omega)]
        rw [← e3]; exact e2
      have e4 := mD_inj hD hkl a2 ea
      rw [e4, a1] at hm
      cases hm
    · exact absurd hat.lt (Nat.not_lt.mpr hsz)
end
section
/-! WHAT THE TABLES SAY of an instruction; instructions of the stack and the locals -/
abbrev vwCl : List vw_C := [(RX1, TX1, 5), (RX2, TX2, 4), (RX3, TX3, 8), (RX4, TX4, 3), (RX5, TX5, 3), (RX6, TX6, 3), (RX7, TX7, 4), (RX8, TX8, 18), (RX9, TX9, 6), (RX10, TX10, 14), (RX11, TX11, 25)]
def gtbl : List Cond := lw_tbl.filter goodWord
/-- the word at a place of the tables -/
def mwat (k : Nat) (x : Cond) : Bool := decide (lw_tbl[k]? = some x) && goodWord x
theorem mword {args : Array Value} {s : State} (hts : ∀ w ∈ gtbl, w.before args s = true) {k : Nat} {x : Cond} (h : mwat k x = true) : x.before args s = true := by
  unfold mwat at h
  rw [Bool.and_eq_true, decide_eq_true_eq] at h
  exact hts x (List.mem_filter.mpr ⟨List.mem_of_getElem? h.1, h.2⟩)
def mlit (a d : Nat) : Int32 := match d with | 0 => nI a | _ => -(nI a)
/-- a text of the table: class, entry, number, text -/
abbrev mTx : Type := String × Nat × Nat × String
def mtxb (tx : List mTx) (own : String) (k a : Nat) : Bool := tx.any fun q => decide (q.1 = own) && (decide (q.2.1 = k) && decide (q.2.2.1 = a))
theorem mtxb_at {tx : List mTx} {own : String} {k a : Nat} (h : mtxb tx own k a = true) : ∃ t, (own, k, a, t) ∈ tx := by
  obtain ⟨q, hq, h2⟩ := List.any_eq_true.mp h
  simp only [Bool.and_eq_true, decide_eq_true_eq] at h2
  obtain ⟨o, k', a', t⟩ := q
  obtain ⟨rfl, rfl, rfl⟩ := h2
  exact ⟨t, hq⟩
def mcon (tx : List mTx) (own : String) (k w a d : Nat) : Bool := match d with
  | 0 => mwat w (.constant own k (nI a))
  | 1 => mwat w (.constant own k (-(nI a)))
  | _ => mtxb tx own k a
/-- checks of the instructions in mpu -/
def mfp (tx : List mTx) (own : String) (i : Instr) (len w a d : Nat) : Bool := match i with
  | .iconst z => decide (len = 1) && decide (Int32.ofInt z = mlit a d)
  | .bipush z => decide (len = 2) && decide ((Int8.ofInt z).toInt32 = mlit a d)
  | .sipush z => decide (len = 3) && decide ((Int16.ofInt z).toInt32 = mlit a d)
  | .ldc k => decide (len = 2) && mcon tx own k w a d
  | .ldc_w k => decide (len = 3) && mcon tx own k w a d
  | .ldc2_w k => decide (len = 3) && mwat w (.constantLong own k (lN a))
  | .lconst k => decide (len = 1) && decide (Int64.ofNat k.val = lN a)
  | .iload _ => decide (len = 2)
  | .lload _ => decide (len = 2)
  | .aload _ => decide (len = 2)
  | .iload_n _ => decide (len = 1)
  | .lload_n _ => decide (len = 1)
  | .aload_n _ => decide (len = 1)
  | .iadd => decide (len = 1)
  | .isub => decide (len = 1)
  | .imul => decide (len = 1)
  | .iand => decide (len = 1)
  | .ior => decide (len = 1)
  | .ixor => decide (len = 1)
  | .ishl => decide (len = 1)
  | .ishr => decide (len = 1)
  | .iushr => decide (len = 1)
  | .ineg => decide (len = 1)
  | .i2l => decide (len = 1)
  | .l2i => decide (len = 1)
  | .ladd => decide (len = 1)
  | .lmul => decide (len = 1)
  | .lcmp => decide (len = 1)
  | .dup => decide (len = 1)
  | .dup2 => decide (len = 1)
  | .pop => decide (len = 1)
  | _ => false
section MPU
variable {p : Program} {l : Launch} {e : Env} {R : Room} {s : State} {m : MethodId} {args : Array Value} {below : List Frame} {meth : Method} {c : Code} {H : Heap} {locs : List Loc} {cells slots : Nat} {Q : State → Prop}
theorem mW_ldcSw {cc : ByteArray} {pc : Nat} {ls : Array Slot} {rest : List Value} (hexec : p.tables.exec = Jvm.exec) (hb : c.code = cc) {own tx : String} {index q : Nat} (hown : s.vm.findClass own = some m.cls) (hZ : vk_R own index tx q s) (hdg : decode cc pc = .ok (.ldc_w index, 3))
    (k : W p l e R s m args below meth c H locs cells slots Q (F0 m (pc + 3) ls (.ref q :: rest))) : W p l e R s m args below meth c H locs cells slots Q (F0 m pc ls rest) := by
  intro T hT X
  obtain ⟨t, a1, b1⟩ := k T hT X
  exact ⟨t, X.ldcStringW hexec hown (text := tx) (a := q) hZ.1 hZ.2 (g := F0 m pc ls rest) rfl (by rw [hb]; exact hdg) t a1, b1⟩
theorem mW_pu {cc : ByteArray} {own : String} {nL pc : Nat} {ls : Array Slot} {tx : List mTx} {ad : Nat → Nat} {i : Instr} {len w a d : Nat} {L : mLc} {st st2 : List Value} (hx : p.tables.exec = Jvm.exec) (hb : c.code = cc) (hown : s.vm.findClass own = some m.cls) (hts : ∀ w ∈ gtbl, w.before args s = true)
    (htx : ∀ q ∈ tx, vk_R q.1 q.2.1 q.2.2.2 (ad (1000 + q.2.2.1)) s) (hd : decode cc pc = .ok (i, len)) (hf : mfp tx own i len w a d = true) (hp : mpu i a d L st = some st2) (hL : mLR ad ls nL L)
    (k : W p l e R s m args below meth c H locs cells slots Q (F0 m (pc + len) ls (st2.map (mvm ad)))) : W p l e R s m args below meth c H locs cells slots Q (F0 m pc ls (st.map (mvm ad))) := by
  have hat : ∀ (j : Nat) (v : Value), mnx L j = some (some v) → ls[j]? = some (.val (mvm ad v)) := fun j v h => hL.2.2 j v (by rw [← mnx_eq]; exact h)
  cases i <;> simp only [mfp, Bool.and_eq_true, decide_eq_true_eq, Bool.false_eq_true] at hf <;> simp only [mpu] at hp
  case aload j =>
    subst hf
    split at hp
    · rename_i x hj; cases hp; exact lv_aload hx hb hd (hat j _ hj) k
    · cases hp
  case aload_n j =>
    subst hf
    split at hp
    · rename_i x hj; cases hp; exact lv_aload_n hx hb hd rfl (hat _ _ hj) k
    · cases hp
  case bipush z => obtain ⟨rfl, h⟩ := hf; cases hp; exact lv_bipush hx hb hd h k
  case dup =>
    subst hf
    split at hp
    · cases hp; exact lv_dup hx hb hd rfl k
    · cases hp; exact lv_dup hx hb hd rfl k
    · cases hp
  case dup2 =>
    subst hf
    split at hp
    · cases hp; exact lv_dup2_11 hx hb hd rfl rfl k
    · cases hp
  case i2l =>
    subst hf
    split at hp
    · cases hp; exact lv_i2l hx hb hd rfl k
    · cases hp
  case iadd =>
    subst hf
    split at hp
    · cases hp; exact lv_iadd hx hb hd k
    · cases hp
  case iand =>
    subst hf
    split at hp
    · cases hp; exact lv_iand hx hb hd k
    · cases hp
  case iconst z => obtain ⟨rfl, h⟩ := hf; cases hp; exact lv_iconst hx hb hd h k
  case iload j =>
    subst hf
    split at hp
    · rename_i x hj; cases hp; exact lv_iload hx hb hd (hat j _ hj) k
    · cases hp
  case iload_n j =>
    subst hf
    split at hp
    · rename_i x hj; cases hp; exact lv_iload_n hx hb hd rfl (hat _ _ hj) k
    · cases hp
  case imul =>
    subst hf
    split at hp
    · cases hp; exact lv_imul hx hb hd k
    · cases hp
  case ineg =>
    subst hf
    split at hp
    · cases hp; exact lv_ineg hx hb hd k
    · cases hp
  case ior =>
    subst hf
    split at hp
    · cases hp; exact lv_ior hx hb hd k
    · cases hp
  case ishl =>
    subst hf
    split at hp
    · cases hp; exact lv_ishl hx hb hd k
    · cases hp
  case ishr =>
    subst hf
    split at hp
    · cases hp; exact lv_ishr hx hb hd k
    · cases hp
  case isub =>
    subst hf
    split at hp
    · cases hp; exact lv_isub hx hb hd k
    · cases hp
  case iushr =>
    subst hf
    split at hp
    · cases hp; exact lv_iushr hx hb hd rfl k
    · cases hp
  case ixor =>
    subst hf
    split at hp
    · cases hp; exact lv_ixor hx hb hd k
    · cases hp
  case l2i =>
    subst hf
    split at hp
    · cases hp; exact lv_l2i hx hb hd rfl k
    · cases hp
  case ladd =>
    subst hf
    split at hp
    · cases hp; exact lv_ladd hx hb hd k
    · cases hp
  case lcmp =>
    subst hf
    split at hp
    · cases hp; exact W.lcmp hx hb hd k
    · cases hp
  case lconst z => obtain ⟨rfl, h⟩ := hf; cases hp; exact lv_lconst hx hb hd h k
  case ldc j =>
    obtain ⟨rfl, h⟩ := hf
    cases hp
    rcases d with _ | _ | d
    · exact lv_ldc hx hb hown (mword hts h) hd k
    · exact lv_ldc hx hb hown (mword hts h) hd k
    · obtain ⟨t, ht⟩ := mtxb_at h
      exact va_ldcS hx hb hown (htx _ ht) hd k
  case ldc_w j =>
    obtain ⟨rfl, h⟩ := hf
    cases hp
    rcases d with _ | _ | d
    · exact lv_ldcw hx hb hown (mword hts h) hd k
    · exact lv_ldcw hx hb hown (mword hts h) hd k
    · obtain ⟨t, ht⟩ := mtxb_at h
      exact mW_ldcSw hx hb hown (htx _ ht) hd k
  case ldc2_w j =>
    obtain ⟨rfl, h⟩ := hf
    cases hp
    exact lv_ldc2 hx hb hown (mword hts h) hd k
  case lload j =>
    subst hf
    split at hp
    · rename_i x hj; cases hp; exact lv_lload hx hb hd (hat j _ hj) k
    · cases hp
  case lload_n j =>
    subst hf
    split at hp
    · rename_i x hj; cases hp; exact lv_lload_n hx hb hd rfl (hat _ _ hj) k
    · cases hp
  case lmul =>
    subst hf
    split at hp
    · cases hp; exact lv_lmul hx hb hd k
    · cases hp
  case pop =>
    subst hf
    split at hp
    · cases hp; exact lv_pop hx hb hd rfl k
    · cases hp; exact lv_pop hx hb hd rfl k
    · cases hp
  case sipush z => obtain ⟨rfl, h⟩ := hf; cases hp; exact lv_sipush hx hb hd h k
end MPU
end
section
/-! FIELDS AND ROWS: instructions that read and write the world -/
def mtys (cy : mCy) : List (ClassId × FieldType) := [(cy.1, .int), (cy.2.1, .long), (cy.2.2, .object "DustYard$State")]
theorem mgood {w : Cond} (k : Nat) (h : mwat k w = true) : w ∈ gtbl := by
  unfold mwat at h
  rw [Bool.and_eq_true, decide_eq_true_eq] at h
  exact List.mem_filter.mpr ⟨List.mem_of_getElem? h.1, h.2⟩
theorem vcl_in1 : ∀ w ∈ u_ws RX1 TX1 5, w ∈ gtbl := by decide +kernel
theorem vcl_in2 : ∀ w ∈ u_ws RX2 TX2 4, w ∈ gtbl := by decide +kernel
theorem vcl_in3 : ∀ w ∈ u_ws RX3 TX3 8, w ∈ gtbl := by decide +kernel
theorem vcl_in4 : ∀ w ∈ u_ws RX4 TX4 3, w ∈ gtbl := by decide +kernel
theorem vcl_in5 : ∀ w ∈ u_ws RX5 TX5 3, w ∈ gtbl := by decide +kernel
theorem vcl_in6 : ∀ w ∈ u_ws RX6 TX6 3, w ∈ gtbl := by decide +kernel
theorem vcl_in7 : ∀ w ∈ u_ws RX7 TX7 4, w ∈ gtbl := by decide +kernel
theorem vcl_in8 : ∀ w ∈ u_ws RX8 TX8 18, w ∈ gtbl := by decide +kernel
theorem vcl_in9 : ∀ w ∈ u_ws RX9 TX9 6, w ∈ gtbl := by decide +kernel
theorem vcl_in10 : ∀ w ∈ u_ws RX10 TX10 14, w ∈ gtbl := by decide +kernel
theorem vcl_in11 : ∀ w ∈ u_ws RX11 TX11 25, w ∈ gtbl := by decide +kernel
/-- what the tables say of the classes -/
theorem vcl_ok : ∀ (a : Nat) (q : vw_C), vwCl[a]? = some q → (∀ w ∈ u_ws q.1 q.2.1 q.2.2, w ∈ gtbl) ∧ ∃ ty0 : Nat → FieldType, (∀ k, k < q.2.2 → parseFieldDescriptor (q.2.1 k).2.2.1 = some (ty0 k)) ∧ ∀ a, a < q.2.2 → ∀ b, b < q.2.2 → a ≠ b → (q.2.1 a).2.1 ≠ (q.2.1 b).2.1
  | 0, q, h => by cases h; exact ⟨vcl_in1, tyX1, tyX1_ok, nmX1⟩
  | 1, q, h => by cases h; exact ⟨vcl_in2, tyX2, tyX2_ok, nmX2⟩
  | 2, q, h => by cases h; exact ⟨vcl_in3, tyX3, tyX3_ok, nmX3⟩
  | 3, q, h => by cases h; exact ⟨vcl_in4, tyX4, tyX4_ok, nmX4⟩
  | 4, q, h => by cases h; exact ⟨vcl_in5, tyX5, tyX5_ok, nmX5⟩
  | 5, q, h => by cases h; exact ⟨vcl_in6, tyX6, tyX6_ok, nmX6⟩
  | 6, q, h => by cases h; exact ⟨vcl_in7, tyX7, tyX7_ok, nmX7⟩
  | 7, q, h => by cases h; exact ⟨vcl_in8, tyX8, tyX8_ok, nmX8⟩
  | 8, q, h => by cases h; exact ⟨vcl_in9, tyX9, tyX9_ok, nmX9⟩
  | 9, q, h => by cases h; exact ⟨vcl_in10, tyX10, tyX10_ok, nmX10⟩
  | 10, q, h => by cases h; exact ⟨vcl_in11, tyX11, tyX11_ok, nmX11⟩
  | n + 11, q, h => by simp [vwCl] at h
/-- a method's fixed facts: the machine, its code, its class, the words, the classes; A what it may change -/
def mHy (p : Program) (s : State) (m : MethodId) (args : Array Value) (c : Code) (own : String) (cc : ByteArray) (nL : Nat) (D : va_G) (cy : mCy) (A : Nat → Prop) : Prop :=
  p.tables.exec = Jvm.exec ∧ c.code = cc ∧ c.maxLocals = nL ∧ s.vm.findClass own = some m.cls ∧ (∀ w ∈ gtbl, w.before args s = true) ∧ va_K D vwCl (mtys cy) s ∧ ∀ q, s.heap.size ≤ q → A q
/-- where it stands -/
def mRl (s : State) (D : va_G) (cy : mCy) (A : Nat → Prop) (nL : Nat) (ad : Nat → Nat) (L : mLc) (sh : List mSh) (σ : mSg) (H : Heap) (locs : List Loc) (ls : Array Slot) : Prop :=
  va_P D vwCl (mwd cy ad σ 0 sh) H ∧ va_D A (mwd cy ad σ 0 sh) ∧ va_S A s.heap H locs ∧ mLR ad ls nL L
/-- a field's link -/
def mffb (own : String) (idx w a b : Nat) : Bool := match vwCl[a]? with
  | some (_, T, N) => Nat.blt b N && mwat w (.fieldLink own idx (T b).1 (T b).2.1 (T b).2.2.1)
  | none => false
/-- a field that may be told: d 0 an int, 1 a boolean, 2 a final reference in a constructor -/
def mfpb (own : String) (init : Bool) (a b d : Nat) : Bool := match vwCl[a]? with
  | some (_, T, _) => (match d with
    | 0 => decide ((T b).2.2.2 = false) && decide (parseFieldDescriptor (T b).2.2.1 = some .int)
    | 1 => decide ((T b).2.2.2 = false) && decide (parseFieldDescriptor (T b).2.2.1 = some .boolean)
    | 2 => decide ((T b).2.2.2 = true) && (init && (decide ((T b).1 = own) && (match parseFieldDescriptor (T b).2.2.1 with | some (.object _) => true | some (.array _) => true | _ => false)))
    | _ => false)
  | none => false
theorem mnar_bool {x : Int32} (h : x = 0 ∨ x = 1) : narrow .boolean (.int x) = .int x ∧ fits .boolean (.int x) = true := by
  rcases h with rfl | rfl <;> exact ⟨by decide +kernel, by decide +kernel⟩
section MHP
variable {p : Program} {l : Launch} {e : Env} {R : Room} {s : State} {m : MethodId} {args : Array Value} {below : List Frame} {meth : Method} {c : Code} {H : Heap} {locs : List Loc} {cells slots : Nat} {Q : State → Prop}
variable {own : String} {cc : ByteArray} {nL : Nat} {D : va_G} {cy : mCy} {A : Nat → Prop} {pc : Nat} {ad : Nat → Nat} {L : mLc} {sh : List mSh} {σ : mSg} {ls : Array Slot} {rest : List Value}
theorem mW_get {idx w a b r : Nat} {fs : List mFs} {x : mFs} (hy : mHy p s m args c own cc nL D cy A) (h : mRl s D cy A nL ad L sh σ H locs ls) (hd : decode cc pc = .ok (.getfield idx, 3)) (hf : mffb own idx w a b = true) (hr : mnx sh r = some (.inl (a, fs))) (hb : mnx fs b = some x)
    (kk : W p l e R s m args below meth c H locs cells slots Q (F0 m (pc + 3) ls (mfe ad (σ r) b x :: rest))) : W p l e R s m args below meth c H locs cells slots Q (F0 m pc ls (.ref (ad r) :: rest)) := by
  obtain ⟨hx, hbc, hml, hown, hts, hK, hA⟩ := hy
  obtain ⟨hP, hD, hS, hL⟩ := h
  rw [mnx_eq] at hr hb
  unfold mffb at hf
  split at hf
  · rename_i C T N hc
    rw [Bool.and_eq_true] at hf
    exact va_get (C := C) (T := T) (N := N) hx hbc hts (vcl_ok a _ hc).1 hown hK hP r (mwd_at hr) hc b (Nat.le_of_ble_eq_true hf.1) (mword hts hf.2) (fun _ h9 => h9) (v := mfe ad (σ r) b x) (by rw [mfv_get, hb, Nat.zero_add]; rfl) hd kk
  · cases hf
theorem mW_put {idx w a b d r : Nat} {fs : List mFs} {x : Int32} (hy : mHy p s m args c own cc nL D cy A) (h : mRl s D cy A nL ad L sh σ H locs ls) (hd : decode cc pc = .ok (.putfield idx, 3)) (hf : mffb own idx w a b = true) {init : Bool} (hg : mfpb own init a b d = true) (hr : mnx sh r = some (.inl (a, fs))) (hb : mnx fs b = some none) (hxd : d = 0 ∨ (d = 1 ∧ (x = 0 ∨ x = 1)))
    (kk : ∀ (H1 : Heap) (locs1 : List Loc), mRl s D cy A nL ad L sh (mput σ r b x) H1 locs1 ls → W p l e R s m args below meth c H1 locs1 cells slots Q (F0 m (pc + 3) ls rest)) : W p l e R s m args below meth c H locs cells slots Q (F0 m pc ls (.int x :: .ref (ad r) :: rest)) := by
  obtain ⟨hx, hbc, hml, hown, hts, hK, hA⟩ := hy
  obtain ⟨hP, hD, hS, hL⟩ := h
  rw [mnx_eq] at hr hb
  unfold mffb at hf
  split at hf
  · rename_i C T N hc
    rw [Bool.and_eq_true] at hf
    have hbN := Nat.le_of_ble_eq_true hf.1
    obtain ⟨hin, ty0, hty, hnm⟩ := vcl_ok a _ hc
    have hset : (mwd cy ad σ 0 sh).set r (ad r, .inr (a, (mfv ad (σ r) 0 fs).set b (.int x))) = mwd cy ad (mput σ r b x) 0 sh := mwd_set0 hr (by simp only [mce]; rw [mput_eq, mfv_put hb]) (fun q hq => mput_ne hq)
    have key : ∃ ty, (T b).2.2.2 = false ∧ parseFieldDescriptor (T b).2.2.1 = some ty ∧ narrow ty (.int x) = .int x ∧ fits ty (.int x) = true := by
      unfold mfpb at hg
      rw [hc] at hg
      rcases hxd with rfl | ⟨rfl, hx01⟩
      · simp only [Bool.and_eq_true, decide_eq_true_eq] at hg
        exact ⟨.int, hg.1, hg.2, rfl, rfl⟩
      · simp only [Bool.and_eq_true, decide_eq_true_eq] at hg
        exact ⟨.boolean, hg.1, hg.2, (mnar_bool hx01).1, (mnar_bool hx01).2⟩
    obtain ⟨ty, k1, k2, k3, k4⟩ := key
    refine va_put (C := C) (T := T) (N := N) hx hbc hts hin ty0 hty hnm hown hK hP hD hS r (mwd_at hr) hc b hbN (mword hts hf.2) (fun _ h9 => h9) k1 k2 k3 k4 (by rw [mfv_len]; exact (List.getElem?_eq_some_iff.mp hb).1) hd (fun H1 locs1 hP1 hD1 hS1 => ?_)
    rw [hset] at hP1 hD1
    exact kk H1 locs1 ⟨hP1, hD1, hS1, hL⟩
  · cases hf
theorem mW_putR {idx w a b r q : Nat} {fs : List mFs} {y : Option Nat} (hy : mHy p s m args c own cc nL D cy A) (h : mRl s D cy A nL ad L sh σ H locs ls) (hd : decode cc pc = .ok (.putfield idx, 3)) (hf : mffb own idx w a b = true) (hin2 : meth.name = "<init>") (hg : mfpb own true a b 2 = true) (hr : mnx sh r = some (.inl (a, fs))) (hb : mnx fs b = some (some y))
    (kk : ∀ (H1 : Heap) (locs1 : List Loc), mRl s D cy A nL ad L (mse sh r (.inl (a, mse fs b (some (some q))))) σ H1 locs1 ls → W p l e R s m args below meth c H1 locs1 cells slots Q (F0 m (pc + 3) ls rest)) : W p l e R s m args below meth c H locs cells slots Q (F0 m pc ls (.ref (ad q) :: .ref (ad r) :: rest)) := by
  obtain ⟨hx, hbc, hml, hown, hts, hK, hA⟩ := hy
  obtain ⟨hP, hD, hS, hL⟩ := h
  rw [mnx_eq] at hr hb
  rw [mse_eq, mse_eq] at kk
  unfold mffb at hf
  split at hf
  · rename_i C T N hc
    rw [Bool.and_eq_true] at hf
    have hbN := Nat.le_of_ble_eq_true hf.1
    have hbl := (List.getElem?_eq_some_iff.mp hb).1
    obtain ⟨hin, ty0, hty, hnm⟩ := vcl_ok a _ hc
    have hset : (mwd cy ad σ 0 sh).set r (ad r, .inr (a, (mfv ad (σ r) 0 fs).set b (.ref (ad q)))) = mwd cy ad σ 0 (sh.set r (.inl (a, fs.set b (some (some q))))) := mwd_set (List.getElem?_eq_some_iff.mp hr).1 rfl (by simp only [mce]; rw [mfv_putR hbl]) (fun _ _ => rfl)
    unfold mfpb at hg
    rw [hc] at hg
    simp only [Bool.and_eq_true, decide_eq_true_eq, Bool.true_and] at hg
    obtain ⟨k1, k2, k3⟩ := hg
    have key : ∃ ty, parseFieldDescriptor (T b).2.2.1 = some ty ∧ narrow ty (.ref (ad q)) = .ref (ad q) ∧ fits ty (.ref (ad q)) = true := by
      split at k3
      · rename_i z hz; exact ⟨_, hz, rfl, rfl⟩
      · rename_i z hz; exact ⟨_, hz, rfl, rfl⟩
      · cases k3
    obtain ⟨ty, k4, k5, k6⟩ := key
    refine va_putF (C := C) (T := T) (N := N) hx hbc hts hin ty0 hty hnm hown hK hP hD hS r (mwd_at hr) hc b hbN (mword hts hf.2) (fun _ h9 => h9) k1 hin2 k2 k4 k5 k6 (by rw [mfv_len]; exact hbl) hd (fun H1 locs1 hP1 hD1 hS1 => ?_)
    rw [hset] at hP1 hD1
    exact kk H1 locs1 ⟨hP1, hD1, hS1, hL⟩
  · cases hf
theorem mW_iald {r N : Nat} {x : Int32} (hy : mHy p s m args c own cc nL D cy A) (h : mRl s D cy A nL ad L sh σ H locs ls) (hd : decode cc pc = .ok (.iaload, 1)) (hr : mnx sh r = some (.inr (.inl N))) (hx : vp_in x N)
    (kk : W p l e R s m args below meth c H locs cells slots Q (F0 m (pc + 1) ls (.int (σ r x.toNatClampNeg) :: rest))) : W p l e R s m args below meth c H locs cells slots Q (F0 m pc ls (.int x :: .ref (ad r) :: rest)) := by
  obtain ⟨hex, hbc, hml, hown, hts, hK, hA⟩ := hy
  obtain ⟨hP, hD, hS, hL⟩ := h
  rw [mnx_eq] at hr
  exact va_iald hex hbc hK hP r 0 (mwd_at hr) rfl hx hd kk
theorem mW_iast {r N : Nat} {x v : Int32} (hy : mHy p s m args c own cc nL D cy A) (h : mRl s D cy A nL ad L sh σ H locs ls) (hd : decode cc pc = .ok (.iastore, 1)) (hr : mnx sh r = some (.inr (.inl N))) (hx : vp_in x N)
    (kk : ∀ (H1 : Heap) (locs1 : List Loc), mRl s D cy A nL ad L sh (mput σ r x.toNatClampNeg v) H1 locs1 ls → W p l e R s m args below meth c H1 locs1 cells slots Q (F0 m (pc + 1) ls rest)) : W p l e R s m args below meth c H locs cells slots Q (F0 m pc ls (.int v :: .int x :: .ref (ad r) :: rest)) := by
  obtain ⟨hex, hbc, hml, hown, hts, hK, hA⟩ := hy
  obtain ⟨hP, hD, hS, hL⟩ := h
  rw [mnx_eq] at hr
  have hset : (mwd cy ad σ 0 sh).set r (ad r, .inl (cy.1, N, .inl (upd (σ r) x.toNatClampNeg v))) = mwd cy ad (mput σ r x.toNatClampNeg v) 0 sh := mwd_set0 hr (by simp only [mce]; rw [mput_eq]) (fun q hq => mput_ne hq)
  refine va_iast hex hbc hK hP hD hS r 0 (mwd_at hr) rfl hx hd (fun H1 locs1 hP1 hD1 hS1 => ?_)
  rw [hset] at hP1 hD1
  exact kk H1 locs1 ⟨hP1, hD1, hS1, hL⟩
theorem mW_lald {r N : Nat} {x : Int32} (hy : mHy p s m args c own cc nL D cy A) (h : mRl s D cy A nL ad L sh σ H locs ls) (hd : decode cc pc = .ok (.laload, 1)) (hr : mnx sh r = some (.inr (.inr (.inl N)))) (hx : vp_in x N)
    (kk : W p l e R s m args below meth c H locs cells slots Q (F0 m (pc + 1) ls (.long (σ r x.toNatClampNeg).toInt64 :: rest))) : W p l e R s m args below meth c H locs cells slots Q (F0 m pc ls (.int x :: .ref (ad r) :: rest)) := by
  obtain ⟨hex, hbc, hml, hown, hts, hK, hA⟩ := hy
  obtain ⟨hP, hD, hS, hL⟩ := h
  rw [mnx_eq] at hr
  exact va_lald hex hbc hK hP r 1 (mwd_at hr) rfl hx hd kk
theorem mW_last {r N : Nat} {x : Int32} {v : Int64} (hy : mHy p s m args c own cc nL D cy A) (h : mRl s D cy A nL ad L sh σ H locs ls) (hd : decode cc pc = .ok (.lastore, 1)) (hr : mnx sh r = some (.inr (.inr (.inl N)))) (hx : vp_in x N) (hv : v.toInt32.toInt64 = v)
    (kk : ∀ (H1 : Heap) (locs1 : List Loc), mRl s D cy A nL ad L sh (mput σ r x.toNatClampNeg v.toInt32) H1 locs1 ls → W p l e R s m args below meth c H1 locs1 cells slots Q (F0 m (pc + 1) ls rest)) : W p l e R s m args below meth c H locs cells slots Q (F0 m pc ls (.long v :: .int x :: .ref (ad r) :: rest)) := by
  obtain ⟨hex, hbc, hml, hown, hts, hK, hA⟩ := hy
  obtain ⟨hP, hD, hS, hL⟩ := h
  rw [mnx_eq] at hr
  have ef : vp_updL (fun i => (σ r i).toInt64) x.toNatClampNeg v = fun i => (upd (σ r) x.toNatClampNeg v.toInt32 i).toInt64 := by
    funext i
    unfold vp_updL upd
    by_cases q : i = x.toNatClampNeg
    · rw [if_pos q, if_pos q, hv]
    · rw [if_neg q, if_neg q]
  have hset : (mwd cy ad σ 0 sh).set r (ad r, .inl (cy.2.1, N, .inr (.inl (vp_updL (fun i => (σ r i).toInt64) x.toNatClampNeg v)))) = mwd cy ad (mput σ r x.toNatClampNeg v.toInt32) 0 sh := mwd_set0 hr (by simp only [mce]; rw [mput_eq, ef]) (fun q hq => mput_ne hq)
  refine va_last hex hbc hK hP hD hS r 1 (mwd_at hr) rfl hx hd (fun H1 locs1 hP1 hD1 hS1 => ?_)
  rw [hset] at hP1 hD1
  exact kk H1 locs1 ⟨hP1, hD1, hS1, hL⟩
theorem mW_aald {r q : Nat} {rs : List (Option Nat)} {x : Int32} (hy : mHy p s m args c own cc nL D cy A) (h : mRl s D cy A nL ad L sh σ H locs ls) (hd : decode cc pc = .ok (.aaload, 1)) (hr : mnx sh r = some (.inr (.inr (.inr rs)))) (hx : vp_in x rs.length) (hq : mnx rs x.toNatClampNeg = some (some q))
    (kk : W p l e R s m args below meth c H locs cells slots Q (F0 m (pc + 1) ls (.ref (ad q) :: rest))) : W p l e R s m args below meth c H locs cells slots Q (F0 m pc ls (.int x :: .ref (ad r) :: rest)) := by
  obtain ⟨hex, hbc, hml, hown, hts, hK, hA⟩ := hy
  obtain ⟨hP, hD, hS, hL⟩ := h
  rw [mnx_eq] at hr hq
  refine va_aldq hex hbc hK hP r 2 (mwd_at hr) (C := "DustYard$State") rfl hx hd ?_
  rw [hq]
  exact kk
theorem mW_aast {r q : Nat} {rs : List (Option Nat)} {fs : List mFs} {x : Int32} (hy : mHy p s m args c own cc nL D cy A) (h : mRl s D cy A nL ad L sh σ H locs ls) (hd : decode cc pc = .ok (.aastore, 1)) (hr : mnx sh r = some (.inr (.inr (.inr rs)))) (hq : mnx sh q = some (.inl (7, fs))) (hx : vp_in x rs.length)
    (kk : ∀ (H1 : Heap) (locs1 : List Loc), mRl s D cy A nL ad L (mse sh r (.inr (.inr (.inr (mse rs x.toNatClampNeg (some q)))))) σ H1 locs1 ls → W p l e R s m args below meth c H1 locs1 cells slots Q (F0 m (pc + 1) ls rest)) : W p l e R s m args below meth c H locs cells slots Q (F0 m pc ls (.ref (ad q) :: .int x :: .ref (ad r) :: rest)) := by
  obtain ⟨hex, hbc, hml, hown, hts, hK, hA⟩ := hy
  obtain ⟨hP, hD, hS, hL⟩ := h
  rw [mnx_eq] at hr hq
  rw [mse_eq, mse_eq] at kk
  have hxl : x.toNatClampNeg < rs.length := Nat.not_le.mp fun z => hx (Or.inr z)
  have ef : va_up (fun i : Nat => ((rs[i]?).getD none).map ad) x.toNatClampNeg (some (ad q)) = fun i : Nat => (((rs.set x.toNatClampNeg (some q))[i]?).getD none).map ad := by
    funext i
    unfold va_up
    by_cases z : i = x.toNatClampNeg
    · subst z; rw [if_pos rfl, List.getElem?_set_self hxl]; rfl
    · rw [if_neg z, List.getElem?_set_ne (Ne.symm z)]
  have hset : (mwd cy ad σ 0 sh).set r (ad r, .inl (cy.2.2, rs.length, .inr (.inr (.inr (.inr (va_up (fun i : Nat => ((rs[i]?).getD none).map ad) x.toNatClampNeg (some (ad q)))))))) = mwd cy ad σ 0 (sh.set r (.inr (.inr (.inr (rs.set x.toNatClampNeg (some q)))))) := mwd_set (List.getElem?_eq_some_iff.mp hr).1 rfl (by simp only [mce]; rw [ef, List.length_set]) (fun _ _ => rfl)
  refine va_astq hex hbc hK hP hD hS r 2 q 7 (r := (RX8, TX8, 18)) (mwd_at hr) rfl (mwd_at hq) rfl hx hd (fun H1 locs1 hP1 hD1 hS1 => ?_)
  rw [hset] at hP1 hD1
  exact kk H1 locs1 ⟨hP1, hD1, hS1, hL⟩
theorem mW_alenI {r N : Nat} (hy : mHy p s m args c own cc nL D cy A) (h : mRl s D cy A nL ad L sh σ H locs ls) (hd : decode cc pc = .ok (.arraylength, 1)) (hr : mnx sh r = some (.inr (.inl N)))
    (kk : W p l e R s m args below meth c H locs cells slots Q (F0 m (pc + 1) ls (.int (nI N) :: rest))) : W p l e R s m args below meth c H locs cells slots Q (F0 m pc ls (.ref (ad r) :: rest)) := by
  obtain ⟨hex, hbc, hml, hown, hts, hK, hA⟩ := hy
  obtain ⟨hP, hD, hS, hL⟩ := h
  rw [mnx_eq] at hr
  exact va_alen hex hbc hK hP r 0 (mwd_at hr) (ty := .int) rfl (v := nI N) rfl hd kk
theorem mW_alenR {r : Nat} {rs : List (Option Nat)} (hy : mHy p s m args c own cc nL D cy A) (h : mRl s D cy A nL ad L sh σ H locs ls) (hd : decode cc pc = .ok (.arraylength, 1)) (hr : mnx sh r = some (.inr (.inr (.inr rs))))
    (kk : W p l e R s m args below meth c H locs cells slots Q (F0 m (pc + 1) ls (.int (nI rs.length) :: rest))) : W p l e R s m args below meth c H locs cells slots Q (F0 m pc ls (.ref (ad r) :: rest)) := by
  obtain ⟨hex, hbc, hml, hown, hts, hK, hA⟩ := hy
  obtain ⟨hP, hD, hS, hL⟩ := h
  rw [mnx_eq] at hr
  exact va_alen hex hbc hK hP r 2 (mwd_at hr) (ty := .object "DustYard$State") rfl (v := nI rs.length) rfl hd kk
theorem mW_copy {idx w k1 k2 k3 r q N M : Nat} {k dp sp : Int32} (hy : mHy p s m args c own cc nL D cy A) (h : mRl s D cy A nL ad L sh σ H locs ls) (hd : decode cc pc = .ok (.invokestatic idx, 3)) (h1 : mwat w (.methodLink own idx arraycopyName) = true) (h2 : mwat k1 (.native arraycopyName) = true) (h3 : mwat k2 (.static arraycopyName) = true) (h4 : mwat k3 (.initialized "java/lang/System") = true)
    (hr : mnx sh r = some (.inr (.inl N))) (hq : mnx sh q = some (.inr (.inl M))) (hb : ¬ sp < 0 ∧ ¬ dp < 0 ∧ ¬ k < 0 ∧ sp.toNatClampNeg + k.toNatClampNeg ≤ N ∧ dp.toNatClampNeg + k.toNatClampNeg ≤ M) (hf : 1 ≤ R.frames) (hl : (rest.map fun v => v.category).sum + (nativeFrameWords "java/lang/System" "arraycopy" 5 + 11) ≤ R.locals)
    (kk : ∀ (H1 : Heap) (locs1 : List Loc), mRl s D cy A nL ad L sh (fun b2 => if b2 = q then va_cpy (σ r) (σ q) sp.toNatClampNeg dp.toNatClampNeg k.toNatClampNeg else σ b2) H1 locs1 ls → W p l e R s m args below meth c H1 locs1 cells slots Q (F0 m (pc + 3) ls rest)) : W p l e R s m args below meth c H locs cells slots Q (F0 m pc ls (.int k :: .int dp :: .ref (ad q) :: .int sp :: .ref (ad r) :: rest)) := by
  obtain ⟨hex, hbc, hml, hown, hts, hK, hA⟩ := hy
  obtain ⟨hP, hD, hS, hL⟩ := h
  rw [mnx_eq] at hr hq
  have hset : (mwd cy ad σ 0 sh).set q (ad q, .inl (cy.1, M, .inl (va_cpy (σ r) (σ q) sp.toNatClampNeg dp.toNatClampNeg k.toNatClampNeg))) = mwd cy ad (fun b2 => if b2 = q then va_cpy (σ r) (σ q) sp.toNatClampNeg dp.toNatClampNeg k.toNatClampNeg else σ b2) 0 sh := mwd_set0 hq (by simp only [mce, if_true]) (fun b hb2 => by simp only [if_neg hb2])
  refine va_copyi hex hbc (hml.trans hL.1.symm) hown (mword hts h1) (mword hts h2) (mword hts h3) (mword hts h4) hK hP hD hS r q 0 0 (mwd_at hr) (mwd_at hq) (ty := .int) rfl rfl rfl hb.1 hb.2.1 hb.2.2.1 hb.2.2.2.1 hb.2.2.2.2 (fun _ _ => rfl) hf hl hd (fun H1 locs1 hP1 hD1 hS1 => ?_)
  rw [hset] at hP1 hD1
  exact kk H1 locs1 ⟨hP1, hD1, hS1, hL⟩
end MHP
end
section
/-! NEW CELLS -/
theorem mup_ok {n q : Nat} {ad : Nat → Nat} (hn : n < 1000) : ∀ r, (r < n ∨ 1000 ≤ r) → va_up ad n q r = ad r := fun r hr => by unfold va_up; rw [if_neg (by omega)]
theorem mcy_eq {D : va_G} {cy : mCy} {s : State} {cA : ClassId} {ty : FieldType} {k : Nat} {cB : ClassId} (h : va_K D vwCl (mtys cy ++ [(cA, ty)]) s) (hk : (mtys cy)[k]? = some (cB, ty)) : cA = cB := by
  have h1 := (h.2 3 (cA, ty) rfl).2
  have h2 := (h.2 k (cB, ty) (by rw [List.getElem?_append_left (List.getElem?_eq_some_iff.mp hk).1]; exact hk)).2
  cases ty with
  | object C =>
    obtain ⟨kA, comp, a1, a2, a3, a4⟩ := h1
    obtain ⟨kB, comp2, b1, b2, b3, b4⟩ := h2
    exact Option.some.inj (a4.symm.trans b4)
  | _ => exact Option.some.inj (h1.symm.trans h2)
def mdf (ty : FieldType) (x : mFs) : Bool := match ty, x with
  | .int, none => true
  | .boolean, none => true
  | .object _, some none => true
  | .array _, some none => true
  | _, _ => false
theorem mdf_ok {ty : FieldType} {x : mFs} (h : mdf ty x = true) (ad : Nat → Nat) (k : Nat) : defaultValue ty = mfe ad (fun _ => 0) k x := by
  unfold mdf at h
  split at h <;> first | rfl | cases h
theorem mbf_key {fs : List mFs} {T : u_T} {ty0 : Nat → FieldType} {N : Nat} (h1 : ∀ k, k < N → parseFieldDescriptor (T k).2.2.1 = some (ty0 k)) (h2 : (List.range N).all (fun k => match fs[k]? with | some x => mdf (ty0 k) x | none => false) = true) : ∀ (ad : Nat → Nat) (j : Nat), j < N → ∀ ty, parseFieldDescriptor (T j).2.2.1 = some ty → defaultValue ty = vp_V (mfv ad (fun _ => 0) 0 fs) j := by
  intro ad j hj ty hty
  cases (h1 j hj).symm.trans hty
  have h3 := List.all_eq_true.mp h2 j (List.mem_range.mpr hj)
  split at h3
  · rename_i x hx
    unfold vp_V
    rw [List.getD_eq_getElem?_getD, mfv_get, hx]
    exact mdf_ok h3 ad (0 + j)
  · cases h3
theorem mbf_ok : ∀ (a : Nat) (q : vw_C), vwCl[a]? = some q → (mbf a).length = q.2.2 ∧ ∀ (ad : Nat → Nat) (j : Nat), j < q.2.2 → ∀ ty, parseFieldDescriptor (q.2.1 j).2.2.1 = some ty → defaultValue ty = vp_V (mfv ad (fun _ => 0) 0 (mbf a)) j
  | 0, q, h => by cases h; exact ⟨rfl, mbf_key tyX1_ok (by decide +kernel)⟩
  | 1, q, h => by cases h; exact ⟨rfl, mbf_key tyX2_ok (by decide +kernel)⟩
  | 2, q, h => by cases h; exact ⟨rfl, mbf_key tyX3_ok (by decide +kernel)⟩
  | 3, q, h => by cases h; exact ⟨rfl, mbf_key tyX4_ok (by decide +kernel)⟩
  | 4, q, h => by cases h; exact ⟨rfl, mbf_key tyX5_ok (by decide +kernel)⟩
  | 5, q, h => by cases h; exact ⟨rfl, mbf_key tyX6_ok (by decide +kernel)⟩
  | 6, q, h => by cases h; exact ⟨rfl, mbf_key tyX7_ok (by decide +kernel)⟩
  | 7, q, h => by cases h; exact ⟨rfl, mbf_key tyX8_ok (by decide +kernel)⟩
  | 8, q, h => by cases h; exact ⟨rfl, mbf_key tyX9_ok (by decide +kernel)⟩
  | 9, q, h => by cases h; exact ⟨rfl, mbf_key tyX10_ok (by decide +kernel)⟩
  | 10, q, h => by cases h; exact ⟨rfl, mbf_key tyX11_ok (by decide +kernel)⟩
  | n + 11, q, h => by simp [vwCl] at h
theorem mbf_S (n a : Nat) : mokS n [.inl (a, mbf a)] = true := by
  have key : ∀ fs : List mFs, (∀ x ∈ fs, x = none ∨ x = some none) → mokF n fs = true := by
    intro fs
    induction fs with
    | nil => intro _; rfl
    | cons x l ih =>
      intro h
      rcases h x List.mem_cons_self with rfl | rfl <;> exact ih fun y hy => h y (List.mem_cons_of_mem _ hy)
  have : mokF n (mbf a) = true := key _ (by
    unfold mbf
    split <;> decide)
  simp [mokS, this]
/-- a class that can be made: its link, what is said of it -/
def mnwb (own : String) (idx w a w1 w2 : Nat) : Bool := match vwCl[a]? with
  | some (C, _, N) => mwat w (.classLink own idx C) && (mwat w1 (.instantiable C N) && mwat w2 (.initialized C))
  | none => false
section MAL
variable {p : Program} {l : Launch} {e : Env} {R : Room} {s : State} {m : MethodId} {args : Array Value} {below : List Frame} {meth : Method} {c : Code} {H : Heap} {locs : List Loc} {cells slots : Nat} {Q : State → Prop}
variable {own : String} {cc : ByteArray} {nL : Nat} {D : va_G} {cy : mCy} {A : Nat → Prop} {pc : Nat} {ad : Nat → Nat} {L : mLc} {sh : List mSh} {σ : mSg} {ls : Array Slot} {rest : List Value}
theorem mW_push {q : Nat} {H1 : Heap} {sx : mSh} {e1 : va_E} (hL : mLR ad ls nL L) (ho : mokL sh.length L = true) (hos : mokS sh.length sh = true) (hsx : mokS sh.length [sx] = true) (hn : sh.length < 1000) (he : e1 = mce cy ad sx (fun _ => 0)) (hP : va_P D vwCl (mwd cy ad σ 0 sh ++ [(q, e1)]) H1) (hD : va_D A (mwd cy ad σ 0 sh ++ [(q, e1)])) (hS : va_S A s.heap H1 locs) : mRl s D cy A nL (va_up ad sh.length q) L (sh ++ [sx]) (mnew σ sh.length) H1 locs ls := by
  rw [mwd_push hos hsx he] at hP hD
  exact ⟨hP, hD, hS, mLR_ok (mup_ok hn) ho hL⟩
theorem mW_newI {a : Nat} (hy : mHy p s m args c own cc nL D cy A) (h : mRl s D cy A nL ad L sh σ H locs ls) (hd : decode cc pc = .ok (.newarray .int, 2)) (hw : (Cond.arrayClass .int).before args s = true) (ho : mokL sh.length L = true) (hos : mokS sh.length sh = true) (hn : sh.length < 1000) (ha : a ≤ 100000) (hc : cells + 1 ≤ R.cells) (hs : slots + a ≤ R.slots)
    (kk : ∀ (q : Nat) (H1 : Heap), mRl s D cy A nL (va_up ad sh.length q) L (sh ++ [.inr (.inl a)]) (mnew σ sh.length) H1 locs ls → W p l e R s m args below meth c H1 locs (cells + 1) (slots + a) Q (F0 m (pc + 2) ls (.ref q :: rest))) : W p l e R s m args below meth c H locs cells slots Q (F0 m pc ls (.int (nI a) :: rest)) := by
  obtain ⟨hex, hbc, hml, hown, hts, hK, hA⟩ := hy
  obtain ⟨hP, hD, hS, hL⟩ := h
  refine va_newa (atype := .int) hex hbc hw rfl hK hP hD hS hA (a0 := (a, .inl (fun _ => 0))) (N' := a) (fun _ => rfl) (nI_pos (by omega)) (nI_clamp (by omega)) (show a * 4 ≤ 536870912 by omega) hc hs hd (fun q cA H1 hK1 hP1 hD1 hS1 => ?_)
  have e1 := mcy_eq (k := 0) hK1 rfl
  subst e1
  exact kk q H1 (mW_push hL ho hos rfl hn rfl hP1 hD1 hS1)
theorem mW_newJ {a : Nat} (hy : mHy p s m args c own cc nL D cy A) (h : mRl s D cy A nL ad L sh σ H locs ls) (hd : decode cc pc = .ok (.newarray .long, 2)) (hw : (Cond.arrayClass .long).before args s = true) (ho : mokL sh.length L = true) (hos : mokS sh.length sh = true) (hn : sh.length < 1000) (ha : a ≤ 100000) (hc : cells + 1 ≤ R.cells) (hs : slots + a ≤ R.slots)
    (kk : ∀ (q : Nat) (H1 : Heap), mRl s D cy A nL (va_up ad sh.length q) L (sh ++ [.inr (.inr (.inl a))]) (mnew σ sh.length) H1 locs ls → W p l e R s m args below meth c H1 locs (cells + 1) (slots + a) Q (F0 m (pc + 2) ls (.ref q :: rest))) : W p l e R s m args below meth c H locs cells slots Q (F0 m pc ls (.int (nI a) :: rest)) := by
  obtain ⟨hex, hbc, hml, hown, hts, hK, hA⟩ := hy
  obtain ⟨hP, hD, hS, hL⟩ := h
  refine va_newa (atype := .long) hex hbc hw rfl hK hP hD hS hA (a0 := (a, .inr (.inl (fun _ => 0)))) (N' := a) (fun _ => rfl) (nI_pos (by omega)) (nI_clamp (by omega)) (show a * 8 ≤ 536870912 by omega) hc hs hd (fun q cA H1 hK1 hP1 hD1 hS1 => ?_)
  have e1 := mcy_eq (k := 1) hK1 rfl
  subst e1
  exact kk q H1 (mW_push hL ho hos rfl hn rfl hP1 hD1 hS1)
theorem mW_newQ {a idx w : Nat} (hy : mHy p s m args c own cc nL D cy A) (h : mRl s D cy A nL ad L sh σ H locs ls) (hd : decode cc pc = .ok (.anewarray idx, 3)) (hw : mwat w (.classLink own idx "DustYard$State") = true) (hov : va_AO "DustYard$State" s) (ho : mokL sh.length L = true) (hos : mokS sh.length sh = true) (hn : sh.length < 1000) (ha : a ≤ 100000) (hc : cells + 1 ≤ R.cells) (hs : slots + a ≤ R.slots)
    (kk : ∀ (q : Nat) (H1 : Heap), mRl s D cy A nL (va_up ad sh.length q) L (sh ++ [.inr (.inr (.inr (List.replicate a none)))]) (mnew σ sh.length) H1 locs ls → W p l e R s m args below meth c H1 locs (cells + 1) (slots + a) Q (F0 m (pc + 3) ls (.ref q :: rest))) : W p l e R s m args below meth c H locs cells slots Q (F0 m pc ls (.int (nI a) :: rest)) := by
  obtain ⟨hex, hbc, hml, hown, hts, hK, hA⟩ := hy
  obtain ⟨hP, hD, hS, hL⟩ := h
  have hrep : ∀ n k : Nat, mokR n (List.replicate k none) = true := by
    intro n k
    induction k with
    | zero => rfl
    | succ k ih => rw [List.replicate_succ]; exact ih
  have ef : (fun i : Nat => (((List.replicate a (none : Option Nat))[i]?).getD none).map ad) = fun _ => none := by
    funext i
    cases hq : (List.replicate a (none : Option Nat))[i]? with
    | none => rfl
    | some y =>
      have := List.eq_of_mem_replicate (List.mem_of_getElem? hq)
      rw [this]; rfl
  refine va_newq hex hbc hown (mword hts hw) hov hK hP hD hS hA (N' := a) (nI_pos (by omega)) (nI_clamp (by omega)) (by omega) hc hs hd (fun q cA H1 hK1 hP1 hD1 hS1 => ?_)
  have e1 := mcy_eq (k := 2) hK1 rfl
  subst e1
  refine kk q H1 (mW_push hL ho hos (by simp [mokS, hrep]) hn ?_ hP1 hD1 hS1)
  simp only [mce, ef, List.length_replicate]
theorem mW_new {a idx w w1 w2 : Nat} (hy : mHy p s m args c own cc nL D cy A) (h : mRl s D cy A nL ad L sh σ H locs ls) (hd : decode cc pc = .ok (.new idx, 3)) (hw : mnwb own idx w a w1 w2 = true) (ho : mokL sh.length L = true) (hos : mokS sh.length sh = true) (hn : sh.length < 1000) (hc : cells + 1 ≤ R.cells) (hs : slots + (mbf a).length ≤ R.slots)
    (kk : ∀ (q : Nat) (H1 : Heap), mRl s D cy A nL (va_up ad sh.length q) L (sh ++ [.inl (a, mbf a)]) (mnew σ sh.length) H1 locs ls → W p l e R s m args below meth c H1 locs (cells + 1) (slots + (mbf a).length) Q (F0 m (pc + 3) ls (.ref q :: rest))) : W p l e R s m args below meth c H locs cells slots Q (F0 m pc ls rest) := by
  obtain ⟨hex, hbc, hml, hown, hts, hK, hA⟩ := hy
  obtain ⟨hP, hD, hS, hL⟩ := h
  unfold mnwb at hw
  split at hw
  · rename_i C T N hcl
    simp only [Bool.and_eq_true] at hw
    obtain ⟨hin, ty0, hty, hnm⟩ := vcl_ok a _ hcl
    obtain ⟨hlen, hdef⟩ := mbf_ok a _ hcl
    rw [hlen] at hs kk
    refine va_new (C := C) (T := T) (N := N) (fs := mfv ad (fun _ => 0) 0 (mbf a)) hex hbc hts hin ty0 hty hown (mword hts hw.1) (mword hts hw.2.1) (mword hts hw.2.2) hK hP hD hS hA hcl (fun j hj => hdef ad j hj _ (hty j hj)) hc hs hd (fun q H1 hP1 hD1 hS1 => ?_)
    exact kk q H1 (mW_push hL ho hos (mbf_S _ a) hn rfl hP1 hD1 hS1)
  · cases hw
end MAL
end
section
/-! STRING CONSTANTS: length() and charAt(int) of the JDK, over what the Statement says of a text -/
theorem dJ0_length_8abf5_0 : decode cJ0_length_8abf5 0 = .ok (.aload_n 0, 1) := by decide +kernel
theorem dJ0_length_8abf5_1 : decode cJ0_length_8abf5 1 = .ok (.getfield 9, 3) := by decide +kernel
theorem dJ0_length_8abf5_4 : decode cJ0_length_8abf5 4 = .ok (.arraylength, 1) := by decide +kernel
theorem dJ0_length_8abf5_5 : decode cJ0_length_8abf5 5 = .ok (.aload_n 0, 1) := by decide +kernel
theorem dJ0_length_8abf5_6 : decode cJ0_length_8abf5 6 = .ok (.invokevirtual 335, 3) := by decide +kernel
theorem dJ0_length_8abf5_9 : decode cJ0_length_8abf5 9 = .ok (.ishr, 1) := by decide +kernel
theorem dJ0_length_8abf5_10 : decode cJ0_length_8abf5 10 = .ok (.ireturn, 1) := by decide +kernel
theorem dJ0_charAt_5068e_0 : decode cJ0_charAt_5068e 0 = .ok (.aload_n 0, 1) := by decide +kernel
theorem dJ0_charAt_5068e_1 : decode cJ0_charAt_5068e 1 = .ok (.invokevirtual 492, 3) := by decide +kernel
theorem dJ0_charAt_5068e_4 : decode cJ0_charAt_5068e 4 = .ok (.ifCond .eq 12, 3) := by decide +kernel
theorem dJ0_charAt_5068e_7 : decode cJ0_charAt_5068e 7 = .ok (.aload_n 0, 1) := by decide +kernel
theorem dJ0_charAt_5068e_8 : decode cJ0_charAt_5068e 8 = .ok (.getfield 9, 3) := by decide +kernel
theorem dJ0_charAt_5068e_11 : decode cJ0_charAt_5068e 11 = .ok (.iload_n 1, 1) := by decide +kernel
theorem dJ0_charAt_5068e_12 : decode cJ0_charAt_5068e 12 = .ok (.invokestatic 495, 3) := by decide +kernel
theorem dJ0_charAt_5068e_15 : decode cJ0_charAt_5068e 15 = .ok (.ireturn, 1) := by decide +kernel
theorem dJ0_charAt_5068e_16 : decode cJ0_charAt_5068e 16 = .ok (.aload_n 0, 1) := by decide +kernel
theorem dJ0_charAt_5068e_17 : decode cJ0_charAt_5068e 17 = .ok (.getfield 9, 3) := by decide +kernel
theorem dJ0_charAt_5068e_20 : decode cJ0_charAt_5068e 20 = .ok (.iload_n 1, 1) := by decide +kernel
theorem dJ0_charAt_5068e_21 : decode cJ0_charAt_5068e 21 = .ok (.invokestatic 498, 3) := by decide +kernel
theorem dJ0_charAt_5068e_24 : decode cJ0_charAt_5068e 24 = .ok (.ireturn, 1) := by decide +kernel
theorem dJ0_coder_7d493_0 : decode cJ0_coder_7d493 0 = .ok (.getstatic 38, 3) := by decide +kernel
theorem dJ0_coder_7d493_3 : decode cJ0_coder_7d493 3 = .ok (.ifCond .eq 10, 3) := by decide +kernel
theorem dJ0_coder_7d493_6 : decode cJ0_coder_7d493 6 = .ok (.aload_n 0, 1) := by decide +kernel
theorem dJ0_coder_7d493_7 : decode cJ0_coder_7d493 7 = .ok (.getfield 15, 3) := by decide +kernel
theorem dJ0_coder_7d493_10 : decode cJ0_coder_7d493 10 = .ok (.goto 4, 3) := by decide +kernel
theorem dJ0_coder_7d493_13 : decode cJ0_coder_7d493 13 = .ok (.iconst 1, 1) := by decide +kernel
theorem dJ0_coder_7d493_14 : decode cJ0_coder_7d493 14 = .ok (.ireturn, 1) := by decide +kernel
theorem dJ0_isLatin1_aae02_0 : decode cJ0_isLatin1_aae02 0 = .ok (.getstatic 38, 3) := by decide +kernel
theorem dJ0_isLatin1_aae02_3 : decode cJ0_isLatin1_aae02 3 = .ok (.ifCond .eq 14, 3) := by decide +kernel
theorem dJ0_isLatin1_aae02_6 : decode cJ0_isLatin1_aae02 6 = .ok (.aload_n 0, 1) := by decide +kernel
theorem dJ0_isLatin1_aae02_7 : decode cJ0_isLatin1_aae02 7 = .ok (.getfield 15, 3) := by decide +kernel
theorem dJ0_isLatin1_aae02_10 : decode cJ0_isLatin1_aae02 10 = .ok (.ifCond .ne 7, 3) := by decide +kernel
theorem dJ0_isLatin1_aae02_13 : decode cJ0_isLatin1_aae02 13 = .ok (.iconst 1, 1) := by decide +kernel
theorem dJ0_isLatin1_aae02_14 : decode cJ0_isLatin1_aae02 14 = .ok (.goto 4, 3) := by decide +kernel
theorem dJ0_isLatin1_aae02_17 : decode cJ0_isLatin1_aae02 17 = .ok (.iconst 0, 1) := by decide +kernel
theorem dJ0_isLatin1_aae02_18 : decode cJ0_isLatin1_aae02 18 = .ok (.ireturn, 1) := by decide +kernel
theorem dJ0_checkIndex_df160_0 : decode cJ0_checkIndex_df160 0 = .ok (.iload_n 0, 1) := by decide +kernel
theorem dJ0_checkIndex_df160_1 : decode cJ0_checkIndex_df160 1 = .ok (.iload_n 1, 1) := by decide +kernel
theorem dJ0_checkIndex_df160_2 : decode cJ0_checkIndex_df160 2 = .ok (.getstatic 1053, 3) := by decide +kernel
theorem dJ0_checkIndex_df160_5 : decode cJ0_checkIndex_df160 5 = .ok (.invokestatic 1059, 3) := by decide +kernel
theorem dJ0_checkIndex_df160_8 : decode cJ0_checkIndex_df160 8 = .ok (.pop, 1) := by decide +kernel
theorem dJ0_checkIndex_df160_9 : decode cJ0_checkIndex_df160 9 = .ok (.return_, 1) := by decide +kernel
theorem dJ1_charAt_3b067_0 : decode cJ1_charAt_3b067 0 = .ok (.iload_n 1, 1) := by decide +kernel
theorem dJ1_charAt_3b067_1 : decode cJ1_charAt_3b067 1 = .ok (.aload_n 0, 1) := by decide +kernel
theorem dJ1_charAt_3b067_2 : decode cJ1_charAt_3b067 2 = .ok (.arraylength, 1) := by decide +kernel
theorem dJ1_charAt_3b067_3 : decode cJ1_charAt_3b067 3 = .ok (.invokestatic 9, 3) := by decide +kernel
theorem dJ1_charAt_3b067_6 : decode cJ1_charAt_3b067 6 = .ok (.aload_n 0, 1) := by decide +kernel
theorem dJ1_charAt_3b067_7 : decode cJ1_charAt_3b067 7 = .ok (.iload_n 1, 1) := by decide +kernel
theorem dJ1_charAt_3b067_8 : decode cJ1_charAt_3b067 8 = .ok (.baload, 1) := by decide +kernel
theorem dJ1_charAt_3b067_9 : decode cJ1_charAt_3b067 9 = .ok (.sipush 255, 3) := by decide +kernel
theorem dJ1_charAt_3b067_12 : decode cJ1_charAt_3b067 12 = .ok (.iand, 1) := by decide +kernel
theorem dJ1_charAt_3b067_13 : decode cJ1_charAt_3b067 13 = .ok (.i2c, 1) := by decide +kernel
theorem dJ1_charAt_3b067_14 : decode cJ1_charAt_3b067 14 = .ok (.ireturn, 1) := by decide +kernel
theorem dJ3_checkIndex_8e157_0 : decode cJ3_checkIndex_8e157 0 = .ok (.iload_n 0, 1) := by decide +kernel
theorem dJ3_checkIndex_8e157_1 : decode cJ3_checkIndex_8e157 1 = .ok (.ifCond .lt 8, 3) := by decide +kernel
theorem dJ3_checkIndex_8e157_4 : decode cJ3_checkIndex_8e157 4 = .ok (.iload_n 0, 1) := by decide +kernel
theorem dJ3_checkIndex_8e157_5 : decode cJ3_checkIndex_8e157 5 = .ok (.iload_n 1, 1) := by decide +kernel
theorem dJ3_checkIndex_8e157_6 : decode cJ3_checkIndex_8e157 6 = .ok (.if_icmp .lt 10, 3) := by decide +kernel
theorem dJ3_checkIndex_8e157_9 : decode cJ3_checkIndex_8e157 9 = .ok (.aload_n 2, 1) := by decide +kernel
theorem dJ3_checkIndex_8e157_10 : decode cJ3_checkIndex_8e157 10 = .ok (.iload_n 0, 1) := by decide +kernel
theorem dJ3_checkIndex_8e157_11 : decode cJ3_checkIndex_8e157 11 = .ok (.iload_n 1, 1) := by decide +kernel
theorem dJ3_checkIndex_8e157_12 : decode cJ3_checkIndex_8e157 12 = .ok (.invokestatic 95, 3) := by decide +kernel
theorem dJ3_checkIndex_8e157_15 : decode cJ3_checkIndex_8e157 15 = .ok (.athrow, 1) := by decide +kernel
theorem dJ3_checkIndex_8e157_16 : decode cJ3_checkIndex_8e157 16 = .ok (.iload_n 0, 1) := by decide +kernel
theorem dJ3_checkIndex_8e157_17 : decode cJ3_checkIndex_8e157 17 = .ok (.ireturn, 1) := by decide +kernel
theorem mGI {k0 : Cond} {X : List Cond} (h : ∀ w ∈ X, w ∈ gtbl) : GoodIn (k0 :: gtbl) X := fun w hw => ⟨List.mem_cons_of_mem _ (h w hw), good_of_word (List.mem_filter.mp (h w hw)).2⟩
theorem mGV {own C : String} {idx : Nat} {y : MethodName} {k k0 : Cond} (h1 : Cond.methodLink own idx y ∈ gtbl) (h2 : Cond.instanceMethod y ∈ gtbl) (h3 : Cond.selects C y y ∈ gtbl) (h4 : Cond.initialized C ∈ gtbl) (h5 : k ∈ gtbl) : GoodIn (k0 :: gtbl) (wsV own idx C y (k :: gtbl)) := mGI fun w hw => by
  unfold wsV at hw
  rcases List.mem_append.mp hw with q | q
  · simp only [List.mem_cons, List.not_mem_nil, or_false] at q
    rcases q with rfl | rfl | rfl | rfl <;> assumption
  · rcases List.mem_cons.mp q with rfl | q
    · exact h5
    · exact q
theorem mGS {own : String} {idx : Nat} {y : MethodName} {k k0 : Cond} (h1 : Cond.methodLink own idx y ∈ gtbl) (h2 : Cond.static y ∈ gtbl) (h4 : Cond.initialized y.cls ∈ gtbl) (h5 : k ∈ gtbl) : GoodIn (k0 :: gtbl) (va_wsS own idx y (k :: gtbl)) := mGI fun w hw => by
  unfold va_wsS at hw
  rcases List.mem_append.mp hw with q | q
  · simp only [List.mem_cons, List.not_mem_nil, or_false] at q
    rcases q with rfl | rfl | rfl <;> assumption
  · rcases List.mem_cons.mp q with rfl | q
    · exact h5
    · exact q
/-- a text at address a, its bytes at v: signs cs; B holds none of its cells -/
def mSf (B : Nat → Prop) (a v : Nat) (cs : List Nat) (U : State) (H : Heap) : Prop :=
  va_O "java/lang/String" a B U H ∧ va_OF "java/lang/String" "coder" "B" (.int 0) a B U H ∧ va_OF "java/lang/String" "value" "[B" (.ref v) a B U H ∧ va_T .byte v cs.length (fun j => .int (nI (cs.getD j 0))) B U H
def mSg2 (B : Nat → Prop) (U : State) (H : Heap) : Prop := va_Z "java/lang/String" "COMPACT_STRINGS" "Z" (.int 1) B U H ∧ va_Zq "jdk/internal/util/Preconditions" "SIOOBE_FORMATTER" "Ljava/util/function/BiFunction;" B U H
theorem mSf.moved {B : Nat → Prop} {a v : Nat} {cs : List Nat} {u U : State} {H : Heap} (hvm : u.vm.Alike U.vm) (h : mSf B a v cs u H) : mSf B a v cs U H := ⟨va_O.moved hvm h.1, va_OF.moved hvm h.2.1, va_OF.moved hvm h.2.2.1, va_T.moved hvm h.2.2.2⟩
theorem mSf.kept {B : Nat → Prop} {a v : Nat} {cs : List Nat} {U : State} {H H1 : Heap} (h : mSf B a v cs U H) (hq : ∀ a : Nat, a < H.size → ¬ B a → H1[a]? = H[a]?) : mSf B a v cs U H1 := ⟨h.1.kept hq, h.2.1.kept hq, h.2.2.1.kept hq, h.2.2.2.kept hq⟩
theorem mSg2.moved {B : Nat → Prop} {u U : State} {H : Heap} (hvm : u.vm.Alike U.vm) (h : mSg2 B u H) : mSg2 B U H := ⟨va_Z.moved hvm h.1, va_Zq.moved hvm h.2⟩
theorem mSg2.kept {B : Nat → Prop} {U : State} {H H1 : Heap} (h : mSg2 B U H) (hq : ∀ a : Nat, a < H.size → ¬ B a → H1[a]? = H[a]?) : mSg2 B U H1 := ⟨h.1.kept hq, h.2.kept hq⟩
theorem gw_c (k : Nat) {w : Cond} (h : mwat k w = true) : w ∈ gtbl := mgood k h
def mrm (f n : Nat) : Room := { frames := f, cells := 0, slots := 0, locals := n }
def mPs (av : List Value) (B : Nat → Prop) (a v : Nat) (cs : List Nat) : Array Value → State → Prop := fun x U => x = av.toArray ∧ mSf B a v cs U U.heap ∧ mSg2 B U U.heap
theorem mPs_blind {av : List Value} {B : Nat → Prop} {a v : Nat} {cs : List Nat} : FrameBlind (mPs av B a v cs) := fun x U g mk h => ⟨h.1, h.2.1.moved (u := U) (U := U.calling g mk x) (Vm.Alike.refl U.vm), h.2.2.moved (u := U) (U := U.calling g mk x) (Vm.Alike.refl U.vm)⟩
def wJ0_coder_7d493 : List Cond := .code yJ0_coder_7d493 cJ0_coder_7d493 1 (some .byte) :: gtbl
def wJ0_length_8abf5 : List Cond := .code yJ0_length_8abf5 cJ0_length_8abf5 1 (some .int) :: gtbl
def wJ0_isLatin1_aae02 : List Cond := .code yJ0_isLatin1_aae02 cJ0_isLatin1_aae02 1 (some .boolean) :: gtbl
def wJ0_charAt_5068e : List Cond := .code yJ0_charAt_5068e cJ0_charAt_5068e 2 (some .char) :: gtbl
def wJ0_checkIndex_df160 : List Cond := .code yJ0_checkIndex_df160 cJ0_checkIndex_df160 2 none :: gtbl
def wJ1_charAt_3b067 : List Cond := .code yJ1_charAt_3b067 cJ1_charAt_3b067 2 (some .char) :: gtbl
def wJ3_checkIndex_8e157 : List Cond := .code yJ3_checkIndex_8e157 cJ3_checkIndex_8e157 3 (some .int) :: gtbl
theorem kJ_f38 : Cond.fieldLink RJ0 38 "java/lang/String" "COMPACT_STRINGS" "Z" ∈ gtbl := gw_c 726 (by decide +kernel)
theorem kJ_f15 : Cond.fieldLink RJ0 15 "java/lang/String" "coder" "B" ∈ gtbl := gw_c 2358 (by decide +kernel)
theorem kJ_f9 : Cond.fieldLink RJ0 9 "java/lang/String" "value" "[B" ∈ gtbl := gw_c 2357 (by decide +kernel)
theorem kJ_f1053 : Cond.fieldLink RJ0 1053 "jdk/internal/util/Preconditions" "SIOOBE_FORMATTER" "Ljava/util/function/BiFunction;" ∈ gtbl := gw_c 742 (by decide +kernel)
theorem gJ_coder {k0 : Cond} : GoodIn (k0 :: gtbl) (wsV RJ0 335 RJ0 yJ0_coder_7d493 wJ0_coder_7d493) := mGV (gw_c 722 (by decide +kernel)) (gw_c 723 (by decide +kernel)) (gw_c 724 (by decide +kernel)) (gw_c 131 (by decide +kernel)) (gw_c 725 (by decide +kernel))
theorem gJ_isLatin1 {k0 : Cond} : GoodIn (k0 :: gtbl) (wsV RJ0 492 RJ0 yJ0_isLatin1_aae02 wJ0_isLatin1_aae02) := mGV (gw_c 732 (by decide +kernel)) (gw_c 733 (by decide +kernel)) (gw_c 734 (by decide +kernel)) (gw_c 131 (by decide +kernel)) (gw_c 735 (by decide +kernel))
theorem gJ_charAt1 {k0 : Cond} : GoodIn (k0 :: gtbl) (va_wsS RJ0 495 yJ1_charAt_3b067 wJ1_charAt_3b067) := mGS (gw_c 736 (by decide +kernel)) (gw_c 737 (by decide +kernel)) (gw_c 132 (by decide +kernel)) (gw_c 738 (by decide +kernel))
theorem gJ_checkIndex {k0 : Cond} : GoodIn (k0 :: gtbl) (va_wsS RJ1 9 yJ0_checkIndex_df160 wJ0_checkIndex_df160) := mGS (gw_c 739 (by decide +kernel)) (gw_c 740 (by decide +kernel)) (gw_c 131 (by decide +kernel)) (gw_c 741 (by decide +kernel))
theorem gJ_checkIndex3 {k0 : Cond} : GoodIn (k0 :: gtbl) (va_wsS RJ0 1059 yJ3_checkIndex_8e157 wJ3_checkIndex_8e157) := mGS (gw_c 744 (by decide +kernel)) (gw_c 745 (by decide +kernel)) (gw_c 133 (by decide +kernel)) (gw_c 746 (by decide +kernel))
set_option maxHeartbeats 4000000 in
theorem cJ_coder (l : Launch) (B : Nat → Prop) (a v : Nat) (cs : List Nat) : Met l yJ0_coder_7d493 wJ0_coder_7d493 (mrm 0 0) (mPs [.ref a] B a v cs) (QcRead 0) 0 0 (fun _ => False) := by
  refine Met.ofW (cc := cJ0_coder_7d493) (maxL := 1) (ret := (some .byte)) (by decide) rfl ?_
  intro p e s m args below meth c s₁ Bd hml hv
  obtain ⟨rfl, hv⟩ := hv
  have hx := Bd.exec
  have hb := Bd.bytes
  have hr := Bd.returns
  have hts0 := atoms_spec (ws := wJ0_coder_7d493) Bd.pre
  have hts : ∀ w ∈ gtbl, w.before _ s = true := fun w hw => hts0 w (List.mem_cons_of_mem _ hw)
  have hown : s.vm.findClass RJ0 = some m.cls := findClass_of_methodNamed Bd.named
  have hlocks := Bd.notSynchronized
  have hS : va_S (fun _ => False) s.heap s.heap [] := va_S.rf
  have hl := lv_entry ([.ref a]) (n := 1) (Nat.le_of_ble_eq_true rfl)
  rw [lg_entry_eq]
  generalize (lg_sl ([.ref a]) ++ List.replicate (1 - (lg_sl ([.ref a])).length) Slot.unset).toArray = ls at hl ⊢
  have hl : lv_has ls 1 [(0, .ref a)] := hl
  obtain ⟨⟨hO, hC, hV, hT⟩, hZ, hZq⟩ := hv
  refine va_gets hx hb (hZ.narrow (fun _ h => h.elim)) hS hown (hts _ kJ_f38) (fun _ h => h) dJ0_coder_7d493_0 ?_
  refine lv_if_eq (tgt := 13) hx hb dJ0_coder_7d493_3 (by decide) (fun h => absurd h (by decide)) (fun _ => ?_)
  refine lv_aload_n hx hb dJ0_coder_7d493_6 rfl (lv_at hl 0 rfl) ?_
  refine vk_getf hx hb (hC.narrow (fun _ h => h.elim)) hS hown (hts _ kJ_f15) (fun _ h => h) dJ0_coder_7d493_7 ?_
  refine lv_goto (tgt := 14) hx hb dJ0_coder_7d493_10 (by decide) ?_
  exact W.zret hx hb hr (by decide +kernel) (fun t ht hW => ⟨rfl, ht⟩) (fun _ h => nomatch h) dJ0_coder_7d493_14
set_option maxHeartbeats 4000000 in
theorem cJ_isLatin1 (l : Launch) (B : Nat → Prop) (a v : Nat) (cs : List Nat) : Met l yJ0_isLatin1_aae02 wJ0_isLatin1_aae02 (mrm 0 0) (mPs [.ref a] B a v cs) (QcRead 1) 0 0 (fun _ => False) := by
  refine Met.ofW (cc := cJ0_isLatin1_aae02) (maxL := 1) (ret := (some .boolean)) (by decide) rfl ?_
  intro p e s m args below meth c s₁ Bd hml hv
  obtain ⟨rfl, hv⟩ := hv
  have hx := Bd.exec
  have hb := Bd.bytes
  have hr := Bd.returns
  have hts0 := atoms_spec (ws := wJ0_isLatin1_aae02) Bd.pre
  have hts : ∀ w ∈ gtbl, w.before _ s = true := fun w hw => hts0 w (List.mem_cons_of_mem _ hw)
  have hown : s.vm.findClass RJ0 = some m.cls := findClass_of_methodNamed Bd.named
  have hlocks := Bd.notSynchronized
  have hS : va_S (fun _ => False) s.heap s.heap [] := va_S.rf
  have hl := lv_entry ([.ref a]) (n := 1) (Nat.le_of_ble_eq_true rfl)
  rw [lg_entry_eq]
  generalize (lg_sl ([.ref a]) ++ List.replicate (1 - (lg_sl ([.ref a])).length) Slot.unset).toArray = ls at hl ⊢
  have hl : lv_has ls 1 [(0, .ref a)] := hl
  obtain ⟨⟨hO, hC, hV, hT⟩, hZ, hZq⟩ := hv
  refine va_gets hx hb (hZ.narrow (fun _ h => h.elim)) hS hown (hts _ kJ_f38) (fun _ h => h) dJ0_isLatin1_aae02_0 ?_
  refine lv_if_eq (tgt := 17) hx hb dJ0_isLatin1_aae02_3 (by decide) (fun h => absurd h (by decide)) (fun _ => ?_)
  refine lv_aload_n hx hb dJ0_isLatin1_aae02_6 rfl (lv_at hl 0 rfl) ?_
  refine vk_getf hx hb (hC.narrow (fun _ h => h.elim)) hS hown (hts _ kJ_f15) (fun _ h => h) dJ0_isLatin1_aae02_7 ?_
  refine lv_if_ne (tgt := 17) hx hb dJ0_isLatin1_aae02_10 (by decide) (fun h => absurd rfl h) (fun _ => ?_)
  refine lv_iconst (v := 1) hx hb dJ0_isLatin1_aae02_13 (by decide) ?_
  refine lv_goto (tgt := 18) hx hb dJ0_isLatin1_aae02_14 (by decide) ?_
  exact W.zret hx hb hr (by decide +kernel) (fun t ht hW => ⟨rfl, ht⟩) (fun _ h => nomatch h) dJ0_isLatin1_aae02_18
theorem mshr0 {n : Nat} (h : n < 2 ^ 31) : nI n >>> ((0 : Int32) &&& 31) = nI n := by
  rw [pk_shrN h _ 0 (by decide)]; simp
set_option maxHeartbeats 4000000 in
theorem cJ_length (l : Launch) (B : Nat → Prop) (a v : Nat) (cs : List Nat) (hn : cs.length < 2 ^ 31) : Met l yJ0_length_8abf5 wJ0_length_8abf5 (mrm 1 30) (mPs [.ref a] B a v cs) (QcRead (nI cs.length)) 0 0 (fun _ => False) := by
  refine Met.ofW (cc := cJ0_length_8abf5) (maxL := 1) (ret := (some .int)) (by decide) rfl ?_
  intro p e s m args below meth c s₁ Bd hml hv
  obtain ⟨rfl, hv⟩ := hv
  have hx := Bd.exec
  have hb := Bd.bytes
  have hr := Bd.returns
  have hts0 := atoms_spec (ws := wJ0_length_8abf5) Bd.pre
  have hts : ∀ w ∈ gtbl, w.before _ s = true := fun w hw => hts0 w (List.mem_cons_of_mem _ hw)
  have hown : s.vm.findClass RJ0 = some m.cls := findClass_of_methodNamed Bd.named
  have hlocks := Bd.notSynchronized
  have hS : va_S (fun _ => False) s.heap s.heap [] := va_S.rf
  have hl := lv_entry ([.ref a]) (n := 1) (Nat.le_of_ble_eq_true rfl)
  rw [lg_entry_eq]
  generalize (lg_sl ([.ref a]) ++ List.replicate (1 - (lg_sl ([.ref a])).length) Slot.unset).toArray = ls at hl ⊢
  have hl : lv_has ls 1 [(0, .ref a)] := hl
  obtain ⟨⟨hO, hC, hV, hT⟩, hZ, hZq⟩ := id hv
  refine lv_aload_n hx hb dJ0_length_8abf5_0 rfl (lv_at hl 0 rfl) ?_
  refine vk_getf hx hb (hV.narrow (fun _ h => h.elim)) hS hown (hts _ kJ_f9) (fun _ h => h) dJ0_length_8abf5_1 ?_
  refine va_tlen hx hb (hT.narrow (fun _ h => h.elim)) hS (v := nI cs.length) rfl dJ0_length_8abf5_4 ?_
  refine lv_aload_n hx hb dJ0_length_8abf5_5 rfl (lv_at hl 0 rfl) ?_
  refine W.callR (r := 0) (W.runV (As := []) (rest := [.int (nI cs.length)]) ⟨hx, hb, hml, hown, hts0⟩ (cJ_coder l B a v cs) (cwV 0 hts0 gJ_coder rfl rfl rfl (by decide +kernel) ⟨Nat.le_of_ble_eq_true rfl, Nat.le_of_ble_eq_true rfl⟩) ⟨mPs_blind, ?_, fun U hU hW => ⟨rfl, by rw [hU]; exact hv.1.moved hW.alike, by rw [hU]; exact hv.2.moved hW.alike⟩⟩ rfl rfl hl.1 rfl (lv_room (Nat.le_of_ble_eq_true rfl)) dJ0_length_8abf5_6 ⟨Nat.le_refl _, Nat.le_refl _⟩) ?_
  · obtain ⟨cell, h1, h2, h3, -⟩ := hO
    exact ⟨cell, h1, h2, h3⟩
  refine W.eq (g2 := F0 m 9 ls [.int 0, .int (nI cs.length)]) rfl ?_
  refine lv_ishr hx hb dJ0_length_8abf5_9 ?_
  rw [mshr0 hn]
  exact W.iret hx hb hr (fun t ht hW => ⟨rfl, ht⟩) (fun _ h => nomatch h) dJ0_length_8abf5_10
set_option maxHeartbeats 4000000 in
theorem cJ_checkIndex3 (l : Launch) (k n : Nat) (hk : k < n) (hn : n < 2 ^ 31) (w : Value) (hw : w = .null ∨ ∃ t, w = .ref t) : Met l yJ3_checkIndex_8e157 wJ3_checkIndex_8e157 (mrm 0 0) (fun x _ => x = ([.int (nI k), .int (nI n), w] : List Value).toArray) (QcRead (nI k)) 0 0 (fun _ => False) := by
  refine Met.ofW (cc := cJ3_checkIndex_8e157) (maxL := 3) (ret := (some .int)) (by decide) rfl ?_
  intro p e s m args below meth c s₁ Bd hml hv
  subst hv
  have hx := Bd.exec
  have hb := Bd.bytes
  have hr := Bd.returns
  have hlocks := Bd.notSynchronized
  have hl : lv_has ((lg_sl ([.int (nI k), .int (nI n), w]) ++ List.replicate (3 - (lg_sl ([.int (nI k), .int (nI n), w])).length) Slot.unset).toArray) 3 (lv_args 0 [.int (nI k), .int (nI n), w]) := by
    rcases hw with rfl | ⟨t, rfl⟩ <;> exact lv_entry _ (Nat.le_of_ble_eq_true rfl)
  rw [lg_entry_eq]
  generalize (lg_sl ([.int (nI k), .int (nI n), w]) ++ List.replicate (3 - (lg_sl ([.int (nI k), .int (nI n), w])).length) Slot.unset).toArray = ls at hl ⊢
  have hl : lv_has ls 3 [(0, .int (nI k)), (1, .int (nI n))] := lv_sub hl [0, 1] rfl
  refine lv_iload_n hx hb dJ3_checkIndex_8e157_0 rfl (lv_at hl 0 rfl) ?_
  refine lv_if_lt (tgt := 9) hx hb dJ3_checkIndex_8e157_1 (by decide) (fun h => absurd h (nI_pos (by omega))) (fun _ => ?_)
  refine lv_iload_n hx hb dJ3_checkIndex_8e157_4 rfl (lv_at hl 0 rfl) ?_
  refine lv_iload_n hx hb dJ3_checkIndex_8e157_5 rfl (lv_at hl 1 rfl) ?_
  refine lv_icmp_lt (tgt := 16) hx hb dJ3_checkIndex_8e157_6 (by decide) (fun _ => ?_) (fun h => absurd (nI_lt hk hn) h)
  refine lv_iload_n hx hb dJ3_checkIndex_8e157_16 rfl (lv_at hl 0 rfl) ?_
  exact W.iret hx hb hr (fun t ht hW => ⟨rfl, ht⟩) (fun _ h => nomatch h) dJ3_checkIndex_8e157_17
def mQv : Array Value → State → Outcome → State → Prop := fun _ st o t => o = .returned none ∧ t.heap = st.heap
theorem cwS' {R : Room} {s : State} {args : Array Value} {own : String} {index maxL mc ms : Nat} {y : MethodName} {bytes : ByteArray} {ret : Option FieldType} {Ts ws ws' : List Cond} {rm : Room} (n : Nat) (ht : ∀ w ∈ Ts, w.before args s = true) (hT : GoodIn Ts (va_wsS own index y ws)) (hw : ws = Cond.code y bytes maxL ret :: ws') (hrc : rm.cells = mc) (hrs : rm.slots = ms)
    (hd : y.cls ≠ "java/lang/invoke/MethodHandle" ∧ y.cls ≠ "java/lang/invoke/VarHandle" ∧ (parseMethodDescriptor y.desc).map (fun d => d.parameters.length) = some n) (hR : rm.frames + 1 ≤ R.frames ∧ 8 + (maxL + 11) + rm.locals ≤ R.locals) :
    CallB R s args own index y bytes maxL ret ws rm mc ms n ∧ (Cond.static y).before args s = true := by
  have ok : ∀ w ∈ va_wsS own index y ws, w.before args s = true := fun w h => ht w (hT w h).1
  exact ⟨callB_of n ht (fun w h => hT w (by unfold va_wsS; exact List.mem_append_right _ h)) hw hrc hrs (ok _ (by simp [va_wsS])) (ok _ (by simp [va_wsS])) hd hR, ok _ (by simp [va_wsS])⟩
set_option maxHeartbeats 4000000 in
theorem cJ_checkIndex (l : Launch) (B : Nat → Prop) (k n : Nat) (hk : k < n) (hn : n < 2 ^ 31) : Met l yJ0_checkIndex_df160 wJ0_checkIndex_df160 (mrm 1 30) (fun x U => x = ([.int (nI k), .int (nI n)] : List Value).toArray ∧ mSg2 B U U.heap) mQv 0 0 (fun _ => False) := by
  refine Met.ofW (cc := cJ0_checkIndex_df160) (maxL := 2) (ret := none) (by decide) rfl ?_
  intro p e s m args below meth c s₁ Bd hml hv
  obtain ⟨rfl, hv⟩ := hv
  have hx := Bd.exec
  have hb := Bd.bytes
  have hr := Bd.returns
  have hts0 := atoms_spec (ws := wJ0_checkIndex_df160) Bd.pre
  have hts : ∀ w ∈ gtbl, w.before _ s = true := fun w hw => hts0 w (List.mem_cons_of_mem _ hw)
  have hown : s.vm.findClass RJ0 = some m.cls := findClass_of_methodNamed Bd.named
  have hlocks := Bd.notSynchronized
  have hS : va_S (fun _ => False) s.heap s.heap [] := va_S.rf
  have hl := lv_entry ([.int (nI k), .int (nI n)]) (n := 2) (Nat.le_of_ble_eq_true rfl)
  rw [lg_entry_eq]
  generalize (lg_sl ([.int (nI k), .int (nI n)]) ++ List.replicate (2 - (lg_sl ([.int (nI k), .int (nI n)])).length) Slot.unset).toArray = ls at hl ⊢
  have hl : lv_has ls 2 [(0, .int (nI k)), (1, .int (nI n))] := hl
  refine lv_iload_n hx hb dJ0_checkIndex_df160_0 rfl (lv_at hl 0 rfl) ?_
  refine lv_iload_n hx hb dJ0_checkIndex_df160_1 rfl (lv_at hl 1 rfl) ?_
  have key : ∀ w : Value, (w = .null ∨ ∃ t, w = .ref t) → va_Z "jdk/internal/util/Preconditions" "SIOOBE_FORMATTER" "Ljava/util/function/BiFunction;" w B s s.heap → W p l e (headSpec wJ0_checkIndex_df160 (mrm 1 30)).room s m ([.int (nI k), .int (nI n)] : List Value).toArray below meth c s.heap [] 0 0 (MQ below mQv ([.int (nI k), .int (nI n)] : List Value).toArray s 0 0 (fun _ => False)) (F0 m 2 ls [.int (nI n), .int (nI k)]) := by
    intro w hw hZ
    refine va_gets hx hb (hZ.narrow (fun _ h => h.elim)) hS hown (hts _ kJ_f1053) (fun _ h => h) dJ0_checkIndex_df160_2 ?_
    refine W.callR (r := nI k) (W.runS (As := [.int (nI k), .int (nI n), w]) (rest := []) ⟨hx, hb, hml, hown, hts0⟩ (cJ_checkIndex3 l k n hk hn w hw) (cwS' 3 hts0 gJ_checkIndex3 rfl rfl rfl (by decide +kernel) ⟨Nat.le_of_ble_eq_true rfl, Nat.le_of_ble_eq_true rfl⟩) preEq rfl rfl hl.1 rfl (lv_room (Nat.le_of_ble_eq_true rfl)) dJ0_checkIndex_df160_5 ⟨Nat.le_refl _, Nat.le_refl _⟩) ?_
    refine W.eq (g2 := F0 m 8 ls [.int (nI k)]) rfl ?_
    refine lv_pop hx hb dJ0_checkIndex_df160_8 rfl ?_
    exact W.vret hx hb hr (fun t ht hW => ⟨rfl, ht⟩) (fun _ h => nomatch h) dJ0_checkIndex_df160_9
  rcases hv.2 with h | ⟨t, h⟩
  · exact key .null (Or.inl rfl) h
  · exact key (.ref t) (Or.inr ⟨t, rfl⟩) h
theorem mand255 {n : Nat} (h : n < 256) : nI n &&& 255 = nI n := by
  rw [pk_andN (by omega) 8 (by decide), Nat.mod_eq_of_lt (by omega)]
set_option maxHeartbeats 4000000 in
theorem cJ_charAt1 (l : Launch) (B : Nat → Prop) (a v : Nat) (cs : List Nat) (hn : cs.length < 2 ^ 31) (k : Nat) (hk : k < cs.length) (hc : cs.getD k 0 < 256) : Met l yJ1_charAt_3b067 wJ1_charAt_3b067 (mrm 2 60) (mPs [.ref v, .int (nI k)] B a v cs) (QcRead (nI (cs.getD k 0))) 0 0 (fun _ => False) := by
  refine Met.ofW (cc := cJ1_charAt_3b067) (maxL := 2) (ret := (some .char)) (by decide) rfl ?_
  intro p e s m args below meth c s₁ Bd hml hv
  obtain ⟨rfl, hv⟩ := hv
  have hx := Bd.exec
  have hb := Bd.bytes
  have hr := Bd.returns
  have hts0 := atoms_spec (ws := wJ1_charAt_3b067) Bd.pre
  have hts : ∀ w ∈ gtbl, w.before _ s = true := fun w hw => hts0 w (List.mem_cons_of_mem _ hw)
  have hown : s.vm.findClass RJ1 = some m.cls := findClass_of_methodNamed Bd.named
  have hlocks := Bd.notSynchronized
  have hS : va_S (fun _ => False) s.heap s.heap [] := va_S.rf
  have hl := lv_entry ([.ref v, .int (nI k)]) (n := 2) (Nat.le_of_ble_eq_true rfl)
  rw [lg_entry_eq]
  generalize (lg_sl ([.ref v, .int (nI k)]) ++ List.replicate (2 - (lg_sl ([.ref v, .int (nI k)])).length) Slot.unset).toArray = ls at hl ⊢
  have hl : lv_has ls 2 [(0, .ref v), (1, .int (nI k))] := hl
  obtain ⟨⟨hO, hC, hV, hT⟩, hZ, hZq⟩ := id hv
  have hT' := hT.narrow (B := fun _ => False) (fun _ h => h.elim)
  refine lv_iload_n hx hb dJ1_charAt_3b067_0 rfl (lv_at hl 1 rfl) ?_
  refine lv_aload_n hx hb dJ1_charAt_3b067_1 rfl (lv_at hl 0 rfl) ?_
  refine va_tlen hx hb hT' hS (v := nI cs.length) rfl dJ1_charAt_3b067_2 ?_
  refine W.callX (W.runS (As := [.int (nI k), .int (nI cs.length)]) (rest := []) ⟨hx, hb, hml, hown, hts0⟩ (cJ_checkIndex l B k cs.length hk hn) (cwS' 2 hts0 gJ_checkIndex rfl rfl rfl (by decide +kernel) ⟨Nat.le_of_ble_eq_true rfl, Nat.le_of_ble_eq_true rfl⟩) ⟨fun x U g mk h => ⟨h.1, h.2.moved (u := U) (U := U.calling g mk x) (Vm.Alike.refl U.vm)⟩, fun U hU hW => ⟨rfl, by rw [hU]; exact hv.2.moved hW.alike⟩⟩ rfl rfl hl.1 rfl (lv_room (Nat.le_of_ble_eq_true rfl)) dJ1_charAt_3b067_3 ⟨Nat.le_refl _, Nat.le_refl _⟩) (fun _ h => h.elim) (fun v2 st₀ t h0 hq => ?_)
  obtain ⟨hq1, hq2⟩ := hq
  cases hq1
  rw [hq2, h0]
  refine W.eq (g2 := F0 m 6 ls []) rfl ?_
  refine lv_aload_n hx hb dJ1_charAt_3b067_6 rfl (lv_at hl 0 rfl) ?_
  refine lv_iload_n hx hb dJ1_charAt_3b067_7 rfl (lv_at hl 1 rfl) ?_
  refine va_tb hx hb hT' hS (vp_in_nI hk (by omega)) (v := .int (nI (cs.getD k 0))) (by rw [nI_clamp (by omega)]) dJ1_charAt_3b067_8 ?_
  refine lv_sipush (v := 255) hx hb dJ1_charAt_3b067_9 (by decide) ?_
  refine lv_iand hx hb dJ1_charAt_3b067_12 ?_
  rw [mand255 hc]
  refine lv_i2c (v := nI (cs.getD k 0)) hx hb dJ1_charAt_3b067_13 (by rw [pk_char, pk_tn (by omega), Nat.mod_eq_of_lt (by omega)]) ?_
  exact W.zret hx hb hr (pk_charN (by omega)).1 (fun t ht hW => ⟨rfl, ht⟩) (fun _ h => nomatch h) dJ1_charAt_3b067_14
set_option maxHeartbeats 4000000 in
theorem cJ_charAt (l : Launch) (B : Nat → Prop) (a v : Nat) (cs : List Nat) (hn : cs.length < 2 ^ 31) (k : Nat) (hk : k < cs.length) (hc : cs.getD k 0 < 256) : Met l yJ0_charAt_5068e wJ0_charAt_5068e (mrm 3 90) (mPs [.ref a, .int (nI k)] B a v cs) (QcRead (nI (cs.getD k 0))) 0 0 (fun _ => False) := by
  refine Met.ofW (cc := cJ0_charAt_5068e) (maxL := 2) (ret := (some .char)) (by decide) rfl ?_
  intro p e s m args below meth c s₁ Bd hml hv
  obtain ⟨rfl, hv⟩ := hv
  have hx := Bd.exec
  have hb := Bd.bytes
  have hr := Bd.returns
  have hts0 := atoms_spec (ws := wJ0_charAt_5068e) Bd.pre
  have hts : ∀ w ∈ gtbl, w.before _ s = true := fun w hw => hts0 w (List.mem_cons_of_mem _ hw)
  have hown : s.vm.findClass RJ0 = some m.cls := findClass_of_methodNamed Bd.named
  have hlocks := Bd.notSynchronized
  have hS : va_S (fun _ => False) s.heap s.heap [] := va_S.rf
  have hl := lv_entry ([.ref a, .int (nI k)]) (n := 2) (Nat.le_of_ble_eq_true rfl)
  rw [lg_entry_eq]
  generalize (lg_sl ([.ref a, .int (nI k)]) ++ List.replicate (2 - (lg_sl ([.ref a, .int (nI k)])).length) Slot.unset).toArray = ls at hl ⊢
  have hl : lv_has ls 2 [(0, .ref a), (1, .int (nI k))] := hl
  obtain ⟨⟨hO, hC, hV, hT⟩, hZ, hZq⟩ := id hv
  refine lv_aload_n hx hb dJ0_charAt_5068e_0 rfl (lv_at hl 0 rfl) ?_
  refine W.callR (r := 1) (W.runV (As := []) (rest := []) ⟨hx, hb, hml, hown, hts0⟩ (cJ_isLatin1 l B a v cs) (cwV 0 hts0 gJ_isLatin1 rfl rfl rfl (by decide +kernel) ⟨Nat.le_of_ble_eq_true rfl, Nat.le_of_ble_eq_true rfl⟩) ⟨mPs_blind, ?_, fun U hU hW => ⟨rfl, by rw [hU]; exact hv.1.moved hW.alike, by rw [hU]; exact hv.2.moved hW.alike⟩⟩ rfl rfl hl.1 rfl (lv_room (Nat.le_of_ble_eq_true rfl)) dJ0_charAt_5068e_1 ⟨Nat.le_refl _, Nat.le_refl _⟩) ?_
  · obtain ⟨cell, h1, h2, h3, -⟩ := hO
    exact ⟨cell, h1, h2, h3⟩
  refine W.eq (g2 := F0 m 4 ls [.int 1]) rfl ?_
  refine lv_if_eq (tgt := 16) hx hb dJ0_charAt_5068e_4 (by decide) (fun h => absurd h (by decide)) (fun _ => ?_)
  refine lv_aload_n hx hb dJ0_charAt_5068e_7 rfl (lv_at hl 0 rfl) ?_
  refine vk_getf hx hb (hV.narrow (fun _ h => h.elim)) hS hown (hts _ kJ_f9) (fun _ h => h) dJ0_charAt_5068e_8 ?_
  refine lv_iload_n hx hb dJ0_charAt_5068e_11 rfl (lv_at hl 1 rfl) ?_
  refine W.callR (r := nI (cs.getD k 0)) (W.runS (As := [.ref v, .int (nI k)]) (rest := []) ⟨hx, hb, hml, hown, hts0⟩ (cJ_charAt1 l B a v cs hn k hk hc) (cwS' 2 hts0 gJ_charAt1 rfl rfl rfl (by decide +kernel) ⟨Nat.le_of_ble_eq_true rfl, Nat.le_of_ble_eq_true rfl⟩) ⟨mPs_blind, fun U hU hW => ⟨rfl, by rw [hU]; exact hv.1.moved hW.alike, by rw [hU]; exact hv.2.moved hW.alike⟩⟩ rfl rfl hl.1 rfl (lv_room (Nat.le_of_ble_eq_true rfl)) dJ0_charAt_5068e_12 ⟨Nat.le_refl _, Nat.le_refl _⟩) ?_
  refine W.eq (g2 := F0 m 15 ls [.int (nI (cs.getD k 0))]) rfl ?_
  exact W.zret hx hb hr (pk_charN (by omega)).1 (fun t ht hW => ⟨rfl, ht⟩) (fun _ h => nomatch h) dJ0_charAt_5068e_15
end
section
/-! A THROW of a class whose constructor passes its text on by any entry: kit/laws/EXCEPTIONS's vx_ctorMadeS and vx_throwS, turned to a first link of another number (NoSuchElementException's) -/
def mownA (own : String) (ic : Nat) (X : String) (ix : Nat) (rx : ByteArray) (Y : String) (r : List String) : List Cond :=
  Bundle.throwableAtoms ++ (Bundle.throwableSAtoms ++ (Bundle.passSAtoms X Y ix rx ++ (Bundle.chainSAtoms Y r ++
  [.methodLink own ic (Bundle.initS X), .instantiable X 6, .castable X X, .selects X Bundle.tFill0 Bundle.tFill0, .selects X Bundle.tFill Bundle.tFill,
   .lays X Bundle.tN "cause" "Ljava/lang/Throwable;", .lays X Bundle.tN "stackTrace" Bundle.steD, .lays X Bundle.tN "suppressedExceptions" Bundle.listD, .lays X Bundle.tN "detailMessage" "Ljava/lang/String;",
   .isRef (.static Bundle.tN "UNASSIGNED_STACK" Bundle.steD), .isRef (.static Bundle.tN "SUPPRESSED_SENTINEL" Bundle.listD),
   .fieldLink Bundle.tN 198 Bundle.tN "backtrace" "Ljava/lang/Object;", .lays Bundle.tN Bundle.tN "backtrace" "Ljava/lang/Object;", .lays X Bundle.tN "backtrace" "Ljava/lang/Object;"])))
section MCT
variable {p : Program} {l : Launch} {e : Env} {R : Room} {s : State} {m₀ : MethodId} {args : Array Value} {below : List Frame} {meth : Method} {c : Code} {W : State} {locs : List Loc} {cells slots : Nat}
set_option maxHeartbeats 1000000 in
theorem mctorMade (X : Stand p l e R s m₀ args below meth c W locs cells slots) (hexec : p.tables.exec = Jvm.exec) (htr : e.platform.stackTraces = false) {own cls Y1 : String} {r : List String} {ic ix : Nat} {rx : ByteArray} (x0 : decode rx 0 = .ok (.aload_n 0, 1)) (x1 : decode rx 1 = .ok (.aload_n 1, 1)) (x2 : decode rx 2 = .ok (.invokespecial ix, 3)) (x5 : decode rx 5 = .ok (.return_, 1))
    (hown : s.vm.findClass own = some m₀.cls) (hcls : Bundle.fit cls = true) (hY : Bundle.fit Y1 = true) (hnames : ∀ n ∈ r, Bundle.fit n = true)
    (h : ∀ a ∈ mownA own ic cls ix rx Y1 r, a.before args s = true)
    (hlocs : ∀ x ∈ locs, ∀ cell, s.heap[x.base]? = some cell → cell.vm.isStatics = false)
    {a : Addr} {cX : ClassId} {kX : Class} (hfoundX : s.vm.findClass cls = some cX) (hkX : s.vm.classes[cX]? = some kX) (hcell : W.heap[a]? = some (freshCell cX kX)) (hnew : s.heap.size ≤ a)
    {msg : Value} (hmsg : msg.isRef = true)
    {g : JFrame} (hg : g.method = m₀) (hsize : g.locals.size = c.maxLocals) {rest : List Value} (hstack : g.stack = msg :: .ref a :: .ref a :: rest)
    (hd6 : decode c.code g.pc = .ok (.invokespecial ic, 3))
    (hRframes : (r.length + 1) + 3 < R.frames) (hRlocals : 2 * g.monitorRoom + ((Value.ref a :: rest).map fun v => v.category).sum + (13 * ((r.length + 1) + 1) + 42) ≤ R.locals) :
    ∃ (V : State) (ce : Cell) (L : List Loc), Stand p l e R s m₀ args below meth c (V.setCell a ce) (locs ++ L) cells slots ∧ (∀ y ∈ L, y.base = a) ∧ a < V.heap.size ∧ ce.cls = cX ∧ ce.vm = .none ∧
      ∀ target, Steps p.tables e below ((V.setCell a ce).setTop { g with stack := .ref a :: rest, pc := g.pc + 3 }) target → Steps p.tables e below (W.setTop g) target := by
  have howns : e.platform.frameOwnsMonitors = true := by rw [X.admits.platform]
  have hfin : e.platform.finalization = false := by rw [X.admits.platform]
  have hpl : e.platform.magicAccessors = ({} : Platform).magicAccessors := by rw [X.admits.platform]
  have a' : ∀ x, x ∈ mownA own ic cls ix rx Y1 r → x.holds args s none s [] = true := fun x hx => h x hx
  obtain ⟨T, Z0, L, -, Y⟩ := ThrowableC.of_atoms (args := args) howns hfin hpl (fun x hx => h x (by simp [mownA, hx]))
  obtain ⟨Z, M, LZ, LM, hnZ⟩ := Init0T.ofS_atoms (args := args) hpl L Y (fun x hx => h x (by simp [mownA, hx]))
  obtain ⟨P1, L1, hP1m, hs1⟩ := PassC.ofS_atoms (args := args) (s := s) hpl (X := cls) (Y := Y1) (Bundle.fit_spec hcls).1 (Bundle.fit_spec hY).2 x0 x1 x2 x5 (fun x hx => h x (by simp [mownA, hx]))
  obtain ⟨P2, Ps, hlen2, L2, hL2, hm2, hsup2, hpass2⟩ := Bundle.chainS (args := args) hpl hnZ r Y1 hY hnames (fun x hx => h x (by simp [mownA, hx]))
  have hlen : (P2 :: Ps).length = r.length + 1 := by rw [List.length_cons, hlen2]
  have hfound : s.vm.findClass cls = some P1.m.cls := findClass_of_methodNamed hP1m
  cases Option.some.inj (hfoundX.symm.trans hfound)
  obtain ⟨c1, kX', hc1, hk, hord, -, -, hn6⟩ := Cond.instantiable_spec (a' (.instantiable cls 6) (by simp [mownA]))
  cases Option.some.inj (hc1.symm.trans hfound)
  cases Option.some.inj (hkX.symm.trans hk)
  have hsel0 : selectMethod e.platform s.vm P1.m.cls T.fill0 = .method T.fill0 := by
    obtain ⟨c2, r2, m2, q1, q2, q3, q4, -⟩ := Cond.selects_spec (a' (.selects cls Bundle.tFill0 Bundle.tFill0) (by simp [mownA]))
    cases Option.some.inj (q1.symm.trans hfound)
    cases Option.some.inj (q2.symm.trans (State.methodFound?_of_named Y.fill0 (by decide)))
    cases Option.some.inj (q3.symm.trans Y.fill0)
    rw [Launch.admits_selectMethod X.admits]; exact q4
  have hselF : selectMethod e.platform s.vm P1.m.cls T.fill = .method T.fill := by
    obtain ⟨c2, r2, m2, q1, q2, q3, q4, -⟩ := Cond.selects_spec (a' (.selects cls Bundle.tFill Bundle.tFill) (by simp [mownA]))
    cases Option.some.inj (q1.symm.trans hfound)
    cases Option.some.inj (q2.symm.trans (State.methodFound?_of_named Y.fill (by decide)))
    cases Option.some.inj (q3.symm.trans Y.fill)
    rw [Launch.admits_selectMethod X.admits]; exact q4
  obtain ⟨cellS0, hcS0, hiss⟩ := Y.statics
  obtain ⟨u0, hu0⟩ := Cond.staticRefV Y.unassigned L.unassignedStatic L.statics hcS0 hiss (a' (.isRef (.static Bundle.tN "UNASSIGNED_STACK" Bundle.steD)) (by simp [mownA]))
  obtain ⟨sen, hsen⟩ := Cond.staticRefV Y.sentinel L.sentinelStatic L.statics hcS0 hiss (a' (.isRef (.static Bundle.tN "SUPPRESSED_SENTINEL" Bundle.listD)) (by simp [mownA]))
  obtain ⟨ci198, i198, fB, hk198, hg198, ha198, hsB, -, hnB, htB, hffB⟩ := Cond.ownField (t := .object "java/lang/Object") Y.found L.cls (by decide +kernel) (a' (.fieldLink Bundle.tN 198 Bundle.tN "backtrace" "Ljava/lang/Object;") (by simp [mownA])) (a' (.lays Bundle.tN Bundle.tN "backtrace" "Ljava/lang/Object;") (by simp [mownA])) e.platform hpl
  obtain ⟨cellS, hcS', heS, -, hkeep⟩ := X.same.2.2.2.2.2 T.aS cellS0 hcS0
  have hcellS : W.heap[T.aS]? = some cellS := hcS'
  have hout' : ∀ i, (⟨T.aS, i⟩ : Loc) ∉ locs := fun i hmem => by
    have := hlocs _ hmem cellS0 hcS0
    rw [hiss] at this; cases this
  have hknownS : cellS.vm ≠ .unknown := by
    rw [heS]; intro hu
    rw [show cellS0.vm = .unknown from hu] at hiss
    cases hiss
  have hneS : T.aS ≠ a := Nat.ne_of_lt (Nat.lt_of_lt_of_le (Array.getElem?_eq_some_iff.mp hcS0).1 hnew)
  obtain ⟨iM, hffM⟩ := Y.msg
  obtain ⟨tyC, dC, hdC, hdnC⟩ := Cond.laysAt hfound hk Y.cause (a' (.lays cls Bundle.tN "cause" "Ljava/lang/Throwable;") (by simp [mownA]))
  obtain ⟨tyS, dS, hdS, hdnS⟩ := Cond.laysAt hfound hk Y.stack (a' (.lays cls Bundle.tN "stackTrace" Bundle.steD) (by simp [mownA]))
  obtain ⟨tyP, dP, hdP, hdnP⟩ := Cond.laysAt hfound hk Y.supp (a' (.lays cls Bundle.tN "suppressedExceptions" Bundle.listD) (by simp [mownA]))
  obtain ⟨tyM, dM, hdM, hdnM⟩ := Cond.laysAt hfound hk hffM (a' (.lays cls Bundle.tN "detailMessage" "Ljava/lang/String;") (by simp [mownA]))
  obtain ⟨tyB, dB, hdB, hdnB⟩ := Cond.laysAt hfound hk hffB (a' (.lays cls Bundle.tN "backtrace" "Ljava/lang/Object;") (by simp [mownA]))
  have bC := Cond.laysApart hdB hdC hdnB hdnC (by rw [hnB, Y.causeName]; decide)
  have bS := Cond.laysApart hdB hdS hdnB hdnS (by rw [hnB, Y.stackName]; decide)
  have bP := Cond.laysApart hdB hdP hdnB hdnP (by rw [hnB, Y.suppName]; decide)
  have hskip : SkipFacts T e.platform s (fun u => u) u0 ((preparedCellV T.toThrowableT (freshCell P1.m.cls kX) a u0 sen).withEntry W.cur) :=
    ⟨{ ci198 := ci198, i198 := i198, fBack := fB }, ⟨hk198, hg198, ha198, hsB⟩, by
      have := fresh_default (c := P1.m.cls) tyB
      rw [htB] at this
      simpa [preparedCellV, Cell.setSlot, Cell.withEntry, Array.getElem?_setIfInBounds, bC, bS, bP, bC.symm, bS.symm, bP.symm, defaultValue] using this, fun _ _ => rfl⟩
  obtain ⟨tm, methC, cdC, kC, vm₁, hnC, -, -, -, -, -, -, -, hW₁, st1⟩ := Steps.initColdS (tb := p.tables) (e := e) (below := below) (s := s) (U := W) X.here hexec X.warmed hpl hown (t := Bundle.initS cls) rfl rfl (Bundle.fit_spec hcls).2
    (a' (.methodLink own ic (Bundle.initS cls)) (by simp [mownA])) (h (.instanceMethod (Bundle.initS cls)) (by simp [mownA, Bundle.passSAtoms])) (bytes := rx) (maxL := 2) (h (.code (Bundle.initS cls) rx 2 none) (by simp [mownA, Bundle.passSAtoms]))
    (f := g) hg (a := a) (msg := msg) (rest := .ref a :: rest) hstack hd6
  cases Option.some.inj (hnC.symm.trans hP1m)
  have X₁ := X.noted hW₁
  obtain ⟨vm₂, X₂, st2⟩ := X₁.ctorMessageOffV hexec (g := { g with stack := .ref a :: rest }) hg hsize T L Z LZ M LM (P1 :: P2 :: Ps)
    (fun P hP => by
      rcases List.mem_cons.mp hP with rfl | hP
      · exact L1
      · rcases List.mem_cons.mp hP with rfl | hP
        · exact L2
        · exact hL2 P hP) ⟨Option.some.inj (hs1.symm.trans hm2), hsup2, hpass2⟩ (u0 := u0) (sen := sen) (self := a) hmsg (cell := freshCell P1.m.cls kX) (cellS := cellS)
    hcell (fun _ => by simp) (by simp) rfl rfl hsel0 hselF hcellS hneS hknownS (by rw [hkeep _ (hout' _)]; exact hu0) (by rw [hkeep _ (hout' _)]; exact hsen)
    (Takes.of_laid hk hord tyC (by rw [Y.causeType]; rfl)) (Takes.of_laid hk hord tyS (by rw [Y.stackType]; exact fits_refV_array _ u0)) (Takes.of_laid hk hord tyP (by rw [Y.suppType]; exact fits_refV_object _ sen))
    (Takes.of_laid hk hord tyM (by rw [Y.msgType]; exact fits_refV_object _ ⟨msg, hmsg⟩)) Y.objLocals hskip htr [] hd6
    (by simp only [List.length_cons, hlen2]; omega) (by simp only [List.length_cons, hlen2]; exact hRlocals)
  have hlt : a < ((W.setVm vm₁).setVm vm₂).heap.size := (Array.getElem?_eq_some_iff.mp hcell).1
  refine ⟨(W.setVm vm₁).setVm vm₂, _, _, X₂, fun y hy => ?_, hlt, rfl, rfl, fun target hwalk => st1 _ (fun acts => ?_)⟩
  · simp only [List.mem_cons, List.not_mem_nil, or_false] at hy
    rcases hy with rfl | rfl | rfl | rfl | rfl <;> rfl
  · rw [doInvoke_state]
    exact st2 _ hwalk
end MCT
section MTH
variable {p : Program} {l : Launch} {e : Env} {R : Room} {s : State} {m : MethodId} {args : Array Value} {below : List Frame} {meth : Method} {c : Code} {H : Heap} {locs : List Loc} {cells slots : Nat} {free : Addr → Prop} {ls : Array Slot} {rest : List Value} {Qc : Array Value → State → Outcome → State → Prop} {XC : String → State → State → Prop}
set_option maxHeartbeats 1000000 in
theorem mthrow {cc : ByteArray} {pc : Nat} (hexec : p.tables.exec = Jvm.exec) (hb : c.code = cc) (hl : l.stackTraces = false) {own cls text Y : String} {r : List String} {ik is ic ix lw mc ms sa : Nat} {rx : ByteArray} {A : Nat → Prop} (x0 : decode rx 0 = .ok (.aload_n 0, 1)) (x1 : decode rx 1 = .ok (.aload_n 1, 1)) (x2 : decode rx 2 = .ok (.invokespecial ix, 3)) (x5 : decode rx 5 = .ok (.return_, 1))
    (hown : s.vm.findClass own = some m.cls) (hcls : Bundle.fit cls = true) (hY : Bundle.fit Y = true) (hnames : ∀ n ∈ r, Bundle.fit n = true)
    (hk : (Cond.classLink own ik cls).before args s = true) (hini : (Cond.initialized cls).before args s = true) (hstr : vk_R own is text sa s) (hat : ∀ w ∈ (mownA own ic cls ix rx Y r).filter vx_no, w.before args s = true)
    (hgood : ∀ w ∈ Cond.classLink own ik cls :: Cond.initialized cls :: (mownA own ic cls ix rx Y r).filter vx_no, vx_ot w = true)
    (hU : vx_Zq Bundle.tN "UNASSIGNED_STACK" Bundle.steD A s s.heap) (hN : vx_Zq Bundle.tN "SUPPRESSED_SENTINEL" Bundle.listD A s s.heap) (hS : va_S A s.heap H locs) (hsize : ls.size = c.maxLocals)
    (d0 : decode cc pc = .ok (.new ik, 3)) (d3 : decode cc (pc + 3) = .ok (.dup, 1)) (d4 : (decode cc (pc + 4) = .ok (.ldc is, 2) ∧ lw = 2) ∨ (decode cc (pc + 4) = .ok (.ldc_w is, 3) ∧ lw = 3)) (d6 : decode cc (pc + 4 + lw) = .ok (.invokespecial ic, 3)) (d9 : decode cc (pc + 4 + lw + 3) = .ok (.athrow, 1))
    (hout : ∀ x ∈ c.exceptionTable.toList, covers x (pc + 4 + lw + 3) = false)
    (hRframes : (r.length + 1) + 3 < R.frames) (hRlocals : (rest.map fun v => v.category).sum + (13 * ((r.length + 1) + 1) + 43) ≤ R.locals) (hRcells : cells + 1 ≤ R.cells) (hRslots : slots + 6 ≤ R.slots) (hlocks : meth.locks = false)
    (hx : ∀ t : State, s.vm.Alike t.vm → H.size ≤ t.heap.size → (∀ q : Nat, q < H.size → t.heap[q]? = H[q]?) → XC cls s t)
    (hf : ∀ z ∈ locs, free z.base) (hc : cells + 1 ≤ mc) (hs : slots + 6 ≤ ms) :
    W p l e R s m args below meth c H locs cells slots (vx_MQ below Qc XC args s mc ms free) (F0 m pc ls rest) := by
  intro T hT X
  have htr : e.platform.stackTraces = false := (show e.platform.stackTraces = l.stackTraces by rw [X.admits.platform]).trans hl
  have Y0 := vx_rebase X (R' := { frames := R.frames, locals := R.locals, cells := 1, slots := 6 }) (Nat.le_refl _) (Nat.le_refl _) hRcells hRslots
  obtain ⟨s', hA⟩ : ∃ z, z = (T.setVm s.vm).setFrames (.invoking m args :: below) := ⟨_, rfl⟩
  rw [← hA] at Y0
  have hvm : s'.vm = s.vm := by rw [hA]; rfl
  have hhp : s'.heap = H := by rw [hA]; exact hT
  have hW0 : s.WarmedH s'.vm := by rw [hvm]; exact State.WarmedH.refl s
  have hat' : ∀ w ∈ (mownA own ic cls ix rx Y r).filter vx_no, w.before args s' = true := fun w hw => vx_ot_at hW0 hvm.symm (hgood w (List.mem_cons_of_mem _ (List.mem_cons_of_mem _ hw))) (hat w hw)
  have hk' : (Cond.classLink own ik cls).before args s' = true := vx_ot_at hW0 hvm.symm (hgood _ List.mem_cons_self) hk
  have hini' : (Cond.initialized cls).before args s' = true := vx_ot_at hW0 hvm.symm (hgood _ (List.mem_cons_of_mem _ List.mem_cons_self)) hini
  have hU' : vx_Zq Bundle.tN "UNASSIGNED_STACK" Bundle.steD A s' s'.heap := by rw [hhp]; exact vx_Zq.moved hW0.alike (hU.kept hS.2.1)
  have hN' : vx_Zq Bundle.tN "SUPPRESSED_SENTINEL" Bundle.listD A s' s'.heap := by rw [hhp]; exact vx_Zq.moved hW0.alike (hN.kept hS.2.1)
  have h : ∀ w ∈ mownA own ic cls ix rx Y r, w.before args s' = true := vx_own hat' (vx_isRefq hU'.1) (vx_isRefq hN'.1) hU'.2.word hN'.2.word
  have hown' : s'.vm.findClass own = some m.cls := by rw [hvm]; exact hown
  have hins : (Cond.instantiable cls 6).before args s' = true := h _ (by simp [mownA])
  obtain ⟨vm₁, cX, kX, hfX, hkX, -, -, X₁, st1⟩ := Y0.newCold hexec (own := own) (C := cls) (index := ik) (n := 6) hown' hk' hins hini'
    (g := F0 m pc ls rest) rfl (by rw [hb]; exact d0) (Nat.le_refl _) (Nat.le_refl _)
  generalize hT1 : (T.setVm vm₁).pushCell { cls := cX, slots := kX.instanceTypes.map defaultValue, vm := .none } = T1 at X₁ st1
  have hcat : (Value.ref T.heap.size).category = 1 := rfl
  have hcellA : T1.heap[T.heap.size]? = some (freshCell cX kX) := by rw [← hT1]; exact State.heap_pushCell_size _ _
  have hsz1 : T1.heap.size = T.heap.size + 1 := by rw [← hT1]; exact size_pushCell _ _
  have d3' : decode c.code (pc + 3) = .ok (.dup, 1) := by rw [hb]; exact d3
  have hstr' : vk_R own is text sa s' := vk_R.warm hW0 hstr
  obtain ⟨V, ce, L, X₂, hL, hlt, hcls2, hcv, st2⟩ := mctorMade X₁ hexec htr (own := own) (cls := cls) (Y1 := Y) (r := r) (ic := ic) x0 x1 x2 x5 hown' hcls hY hnames h (fun x hx => nomatch hx) hfX hkX hcellA (by rw [hhp, hT]; exact Nat.le_refl _) (msg := .ref sa) rfl
    (g := { method := m, pc := pc + 4 + lw, locals := ls, stack := .ref sa :: .ref T.heap.size :: .ref T.heap.size :: rest, locked := none }) rfl hsize (rest := rest) rfl
    (by rw [hb]; exact d6) hRframes (by simp only [List.map_cons, List.sum_cons, hcat]; omega)
  have X₃ := Stand.forget (locs := []) (extra := L) X₂ (fun q hq => by rw [hL q hq, hhp, hT]; exact Nat.le_refl _)
  obtain ⟨hsteps, hrun, hend, hW, hsame⟩ := X₃.athrowLeaves hexec (g := { method := m, pc := pc + 4 + lw + 3, locals := ls, stack := .ref T.heap.size :: rest, locked := none }) rfl rfl rfl hout (a := T.heap.size) (rest := rest) rfl (by rw [hb]; exact d9) hlocks
  generalize hUe : (V.setCell T.heap.size ce).setFrames (.throwing T.heap.size :: below) = U at hsteps hrun hend hW hsame
  have hce : U.heap[T.heap.size]? = some ce := by rw [← hUe]; exact heapAt_setCell_self (s := V) ce hlt
  obtain ⟨f1, f2⟩ := vx_frame hsame
  rw [hhp] at f1 f2
  have hWs : s.WarmedH U.vm := State.WarmedH.trans hW0 hW
  have hcl : s.vm.findClass cls = some ce.cls := by rw [hcls2, ← hvm]; exact hfX
  have hall : s.sameButNew ({ U with vm := s.vm } : State) locs mc ms := by
    subst hA
    obtain ⟨e1, e2⟩ := hsame
    rw [State.setFrames_setFrames] at e1
    have h2 : (T.setVm s.vm).sameButNew ({ U with vm := s.vm } : State) [] (0 + 1) (0 + 6) := ⟨e1, e2⟩
    have h3 := X.same.trans h2
    rw [List.append_nil] at h3
    exact h3.mono hc hs
  refine ⟨U, ?_, .threw T.heap.size, hrun, hend, Or.inr ⟨T.heap.size, rfl, cls, ce, locs, hx U hWs.alike f1 (fun q hq => f2 q hq (fun z hz => nomatch hz)), hce, hcv, hcl, hWs, hall, hf⟩⟩
  refine st1 _ ?_
  show Steps p.tables e below (T1.setTop { method := m, pc := pc + 3, locals := ls, stack := .ref T.heap.size :: rest, locked := none }) _
  jvm_step X₁.here [X₁.here.top, hexec, d3', Value.category]
  rcases d4 with ⟨d4, rfl⟩ | ⟨d4, rfl⟩
  · exact X₁.ldcString hexec (own := own) (text := text) (index := is) (a := sa) hown' hstr'.1 hstr'.2
      (g := { method := m, pc := pc + 4, locals := ls, stack := .ref T.heap.size :: .ref T.heap.size :: rest, locked := none }) rfl (by rw [hb]; exact d4) _ (st2 _ hsteps)
  · exact X₁.ldcStringW hexec (own := own) (text := text) (index := is) (a := sa) hown' hstr'.1 hstr'.2
      (g := { method := m, pc := pc + 4, locals := ls, stack := .ref T.heap.size :: .ref T.heap.size :: rest, locked := none }) rfl (by rw [hb]; exact d4) _ (st2 _ hsteps)
end MTH
end
section
/-! WHAT STAYS OUTSIDE THE WORLD: texts, statics, words that are not good ones -/
def mtx : List mTx := [("DustYard$Reader", 162, 0, "more"), ("DustYard$Reader", 166, 1, "less"), ("DustYard$Reader", 168, 2, "toll"), ("DustYard$Reader", 173, 3, "if"), ("DustYard$Reader", 196, 4, "not"), ("DustYard$Reader", 157, 5, "smoke"), ("DustYard$Reader", 198, 6, "far"), ("DustYard$Reader", 200, 7, "full"), ("DustYard$Reader", 42, 8, "street"), ("DustYard$Reader", 208, 9, "x"), ("DustYard$Reader", 210, 10, "y"), ("DustYard$Reader", 104, 11, "waits"), ("DustYard$Reader", 212, 12, "loads"), ("DustYard$Reader", 149, 13, "till"), ("DustYard$Reader", 153, 14, "day"), ("DustYard$Reader", 194, 15, "and"), ("DustYard$Reader", 185, 16, "or"), ("DustYard$Reader", 92, 17, "at"), ("DustYard$Reader", 98, 18, "mix"), ("DustYard$Reader", 60, 19, "cart"), ("DustYard$Reader", 118, 20, "hold"), ("DustYard$Reader", 120, 21, "goes"), ("DustYard$Reader", 68, 22, "sieve"), ("DustYard$Reader", 76, 23, "contract"), ("DustYard$Reader", 128, 24, "to"), ("DustYard$Reader", 130, 25, "many"), ("DustYard$Reader", 132, 26, "pays"), ("DustYard$Reader", 84, 27, "heap"), ("DustYard$Reader", 141, 28, "fire"), ("DustYard$Reader", 145, 29, "rats"), ("DustYard", 119, 30, "the text of the yard is wrong"), ("DustYard", 129, 31, "there are 12 texts of the yard"), ("DustYard", 137, 32, "the text of the law is wrong"), ("DustYard", 472, 33, "there is no such street"), ("DustYard", 177, 34, "a street has what 0 to 7"), ("DustYard", 474, 35, "there is no such grain"), ("DustYard", 278, 36, "there is no such cart"), ("DustYard", 204, 37, "a cart has what 0 to 4"), ("DustYard", 211, 38, "there is no such sieve"), ("DustYard", 259, 39, "there is no such contract"), ("DustYard", 221, 40, "a contract has what 0 to 4"), ("DustYard", 229, 41, "days are 1 to 60"), ("DustYard", 242, 42, "no load waits there"), ("DustYard", 249, 43, "a mesh is 2 to 6"), ("DustYard", 254, 44, "there are 4 sieves, or the till has too little"), ("DustYard", 264, 45, "there are 6 contracts"), ("DustYard", 273, 46, "the contract is not open"), ("DustYard", 283, 47, "there are 3 carts"), ("DustYard", 288, 48, "a load has 0 to 9 of a grain"), ("DustYard", 300, 49, "the contract is not open, or the heap has too few"), ("DustYard", 336, 50, "the tape does not tell at most 6 streets"), ("DustYard", 341, 51, "a round is of 0 to 99"), ("DustYard", 354, 52, "both streets are one, or there are no such hundredths"), ("DustYard", 481, 53, "the tape does not tell rows of a grain and a number"), ("DustYard", 398, 54, "shovels are 0 to 99"), ("DustYard", 410, 55, "days and fires are 0 to 5"), ("DustYard", 427, 56, "the most are what 0 to 2"), ("DustYard", 476, 57, "days are 0 to 60"), ("DustYard", 452, 58, "a row of the log has what 0 to 4"), ("DustYardModel", 250, 59, "more"), ("DustYardModel", 252, 60, "less"), ("DustYardModel", 254, 61, "toll"), ("DustYardModel", 256, 62, "if"), ("DustYardModel", 231, 63, "not"), ("DustYardModel", 180, 64, "smoke"), ("DustYardModel", 220, 65, "far"), ("DustYardModel", 226, 66, "full"), ("DustYardModel", 143, 67, "street"), ("DustYardModel", 211, 68, "x"), ("DustYardModel", 213, 69, "y"), ("DustYardModel", 117, 70, "waits"), ("DustYardModel", 215, 71, "loads"), ("DustYardModel", 176, 72, "till"), ("DustYardModel", 178, 73, "day"), ("DustYardModel", 243, 74, "and"), ("DustYardModel", 248, 75, "or"), ("DustYardModel", 107, 76, "at"), ("DustYardModel", 112, 77, "mix"), ("DustYardModel", 148, 78, "cart"), ("DustYardModel", 119, 79, "hold"), ("DustYardModel", 121, 80, "goes"), ("DustYardModel", 153, 81, "sieve"), ("DustYardModel", 158, 82, "contract"), ("DustYardModel", 130, 83, "to"), ("DustYardModel", 135, 84, "many"), ("DustYardModel", 137, 85, "pays"), ("DustYardModel", 163, 86, "heap"), ("DustYardModel", 168, 87, "fire"), ("DustYardModel", 174, 88, "rats")]
def mstl : List (List Nat) := [[109, 111, 114, 101], [108, 101, 115, 115], [116, 111, 108, 108], [105, 102], [110, 111, 116], [115, 109, 111, 107, 101], [102, 97, 114], [102, 117, 108, 108], [115, 116, 114, 101, 101, 116], [120], [121], [119, 97, 105, 116, 115], [108, 111, 97, 100, 115], [116, 105, 108, 108], [100, 97, 121], [97, 110, 100], [111, 114], [97, 116], [109, 105, 120], [99, 97, 114, 116], [104, 111, 108, 100], [103, 111, 101, 115], [115, 105, 101, 118, 101], [99, 111, 110, 116, 114, 97, 99, 116], [116, 111], [109, 97, 110, 121], [112, 97, 121, 115], [104, 101, 97, 112], [102, 105, 114, 101], [114, 97, 116, 115], [], [], [], [], [], [], [], [], [], [], [], [], [], [], [], [], [], [], [], [], [], [], [], [], [], [], [], [], [], [109, 111, 114, 101], [108, 101, 115, 115], [116, 111, 108, 108], [105, 102], [110, 111, 116], [115, 109, 111, 107, 101], [102, 97, 114], [102, 117, 108, 108], [115, 116, 114, 101, 101, 116], [120], [121], [119, 97, 105, 116, 115], [108, 111, 97, 100, 115], [116, 105, 108, 108], [100, 97, 121], [97, 110, 100], [111, 114], [97, 116], [109, 105, 120], [99, 97, 114, 116], [104, 111, 108, 100], [103, 111, 101, 115], [115, 105, 101, 118, 101], [99, 111, 110, 116, 114, 97, 99, 116], [116, 111], [109, 97, 110, 121], [112, 97, 121, 115], [104, 101, 97, 112], [102, 105, 114, 101], [114, 97, 116, 115]]
/-- the signs of a text, by its number -/
def mstr (i : Nat) : List Nat := (mnx mstl i).getD []
def mxl : List String := ["java/lang/IllegalArgumentException", "java/lang/IllegalStateException", "java/lang/IndexOutOfBoundsException", "java/lang/UnsupportedOperationException", "java/util/NoSuchElementException"]
def mxn (i : Nat) : String := (mnx mxl i).getD ""
def mdcl : List MethodName := [⟨"java/lang/RuntimeException", "<init>", "(Ljava/lang/String;)V"⟩, ⟨"java/lang/Exception", "<init>", "(Ljava/lang/String;)V"⟩, ⟨"java/lang/Throwable", "<init>", "(Ljava/lang/String;)V"⟩]
def mnst : List (String × Nat × MethodName) := [("DustYard", 9, ⟨"DustYard$Tape", "<init>", "()V"⟩), ("DustYard", 18, ⟨"DustYard$State", "<init>", "()V"⟩), ("DustYard$State", 32, ⟨"DustYard$Log", "<init>", "()V"⟩), ("DustYard", 31, ⟨"DustYard$Law", "<init>", "()V"⟩), ("DustYard$Memory", 15, ⟨"DustYard$State", "<init>", "()V"⟩), ("DustYard", 60, ⟨"DustYard$Rounds", "<init>", "()V"⟩), ("DustYard", 67, ⟨"DustYard$Deals", "<init>", "()V"⟩), ("DustYard", 74, ⟨"DustYard$Guesses", "<init>", "()V"⟩)]
def mrat (i : Nat) : Int32 := match i with | 0 => 1 | 1 => 0 | 2 => -1 | _ => 2
/-- adc: addresses of the constants; adV: of the texts' bytes; cells from S0 on are the world's -/
def mEX (adc adV : Nat → Nat) (S0 : Nat) (U : State) (H : Heap) : Prop :=
  (∀ q ∈ mtx, vk_R q.1 q.2.1 q.2.2.2 (adc (1000 + q.2.2.1)) U) ∧
  (∀ i, i < 89 → ¬ mstr i = [] → mSf (fun q => S0 ≤ q) (adc (1000 + i)) (adV i) (mstr i) U H) ∧
  mSg2 (fun q => S0 ≤ q) U H ∧
  (va_Z "DustYard" "RAT_HAS" "[I" (.ref (adc 1200)) (fun q => S0 ≤ q) U H ∧ va_T .int (adc 1200) 4 (fun i => .int (mrat i)) (fun q => S0 ≤ q) U H) ∧
  (vx_Zq Bundle.tN "UNASSIGNED_STACK" Bundle.steD (fun q => S0 ≤ q) U H ∧ vx_Zq Bundle.tN "SUPPRESSED_SENTINEL" Bundle.listD (fun q => S0 ≤ q) U H) ∧
  (∀ x ∈ mxl, va_Nw (.castable x x) U) ∧ (∀ x ∈ mdcl, va_Nw (.declares x) U) ∧ (∀ q ∈ mnst, va_Nw (.methodLinkNest q.1 q.2.1 q.2.2 "DustYard") U) ∧ va_AO "DustYard$State" U ∧ (∀ x ∈ mxl, ∀ y ∈ mxl, x ≠ y → va_Nc x y U)
theorem mEX.warm {adc adV : Nat → Nat} {S0 : Nat} {s U : State} {H : Heap} (hW : s.WarmedH U.vm) (h : mEX adc adV S0 s H) : mEX adc adV S0 U H := by
  obtain ⟨h1, h2, h3, h4, h5, h6, h7, h8, h9, h10⟩ := h
  have ha := hW.alike
  exact ⟨fun q hq => vk_R.warm hW (h1 q hq), fun i hi hn => (h2 i hi hn).moved ha, h3.moved ha, ⟨va_Z.moved ha h4.1, va_T.moved ha h4.2⟩, ⟨vx_Zq.moved ha h5.1, vx_Zq.moved ha h5.2⟩, fun x hx => va_Nw.warmC hW (h6 x hx), fun x hx => va_Nw.warmD hW (h7 x hx), fun q hq => va_Nw.warmM hW (h8 q hq), va_AO.moved ha h9, fun x hx y hy hxy => va_Nc.moved ha (h10 x hx y hy hxy)⟩
theorem mEX.kept {adc adV : Nat → Nat} {S0 : Nat} {U : State} {H H1 : Heap} (h : mEX adc adV S0 U H) (hq : ∀ a : Nat, a < H.size → ¬ S0 ≤ a → H1[a]? = H[a]?) : mEX adc adV S0 U H1 := by
  obtain ⟨h1, h2, h3, h4, h5, h6, h7, h8, h9, h10⟩ := h
  exact ⟨h1, fun i hi hn => (h2 i hi hn).kept hq, h3.kept hq, ⟨h4.1.kept hq, h4.2.kept hq⟩, ⟨h5.1.kept hq, h5.2.kept hq⟩, h6, h7, h8, h9, h10⟩
theorem mEX.blind {adc adV : Nat → Nat} {S0 : Nat} {U : State} {H : Heap} (h : mEX adc adV S0 U H) (g : JFrame) (mk : MethodId) (x : Array Value) : mEX adc adV S0 (U.calling g mk x) H := mEX.warm (s := U) (U := U.calling g mk x) (State.WarmedH.refl U) h
/-- the words of a throw: the class, its constructor's entry, how that passes on -/
def mthw (X : String) (ic ix : Nat) (rx : ByteArray) : List Cond := (mownA "DustYard" ic X ix rx "java/lang/RuntimeException" ["java/lang/Exception"]).filter vx_no
def mthok (X : String) (w : Cond) : Bool := (goodWord w && decide (w ∈ lw_tbl)) || (decide (w = .castable X X) || mdcl.any (fun x => decide (w = .declares x)))
abbrev mrx4 : ByteArray := prog_32_method_4_code
theorem mrx4_0 : decode mrx4 0 = .ok (.aload_n 0, 1) := by decide +kernel
theorem mrx4_1 : decode mrx4 1 = .ok (.aload_n 1, 1) := by decide +kernel
theorem mrx4_2 : decode mrx4 2 = .ok (.invokespecial 13, 3) := by decide +kernel
theorem mrx4_5 : decode mrx4 5 = .ok (.return_, 1) := by decide +kernel
theorem mthw_0 : (mthw "java/lang/IllegalArgumentException" 121 7 Bundle.six).all (mthok "java/lang/IllegalArgumentException") = true := by decide +kernel
theorem mtho_0 : (mthw "java/lang/IllegalArgumentException" 121 7 Bundle.six).all vx_ot = true := by decide +kernel
theorem mthw_1 : (mthw "java/lang/IllegalStateException" 244 7 Bundle.six).all (mthok "java/lang/IllegalStateException") = true := by decide +kernel
theorem mtho_1 : (mthw "java/lang/IllegalStateException" 244 7 Bundle.six).all vx_ot = true := by decide +kernel
theorem mthw_2 : (mthw "java/lang/IndexOutOfBoundsException" 213 7 Bundle.six).all (mthok "java/lang/IndexOutOfBoundsException") = true := by decide +kernel
theorem mtho_2 : (mthw "java/lang/IndexOutOfBoundsException" 213 7 Bundle.six).all vx_ot = true := by decide +kernel
theorem mthw_3 : (mthw "java/lang/UnsupportedOperationException" 131 7 Bundle.six).all (mthok "java/lang/UnsupportedOperationException") = true := by decide +kernel
theorem mtho_3 : (mthw "java/lang/UnsupportedOperationException" 131 7 Bundle.six).all vx_ot = true := by decide +kernel
theorem mthw_4 : (mthw "java/util/NoSuchElementException" 179 13 mrx4).all (mthok "java/util/NoSuchElementException") = true := by decide +kernel
theorem mtho_4 : (mthw "java/util/NoSuchElementException" 179 13 mrx4).all vx_ot = true := by decide +kernel
/-- constructors of the exceptions, by class number -/
def mxc : List Nat := [121, 244, 213, 131, 179]
theorem mth_all : ∀ (i : Nat) (X : String) (ic : Nat), mnx mxl i = some X → mnx mxc i = some ic → X ∈ mxl ∧ Bundle.fit X = true ∧ ∃ (ix : Nat) (rx : ByteArray), decode rx 0 = .ok (.aload_n 0, 1) ∧ decode rx 1 = .ok (.aload_n 1, 1) ∧ decode rx 2 = .ok (.invokespecial ix, 3) ∧ decode rx 5 = .ok (.return_, 1) ∧ (mthw X ic ix rx).all (mthok X) = true ∧ (mthw X ic ix rx).all vx_ot = true
  | 0, _, _, h1, h2 => by cases h1; cases h2; exact ⟨by decide, by decide +kernel, 7, Bundle.six, Bundle.six_0, Bundle.six_1, Bundle.six_2, Bundle.six_5, mthw_0, mtho_0⟩
  | 1, _, _, h1, h2 => by cases h1; cases h2; exact ⟨by decide, by decide +kernel, 7, Bundle.six, Bundle.six_0, Bundle.six_1, Bundle.six_2, Bundle.six_5, mthw_1, mtho_1⟩
  | 2, _, _, h1, h2 => by cases h1; cases h2; exact ⟨by decide, by decide +kernel, 7, Bundle.six, Bundle.six_0, Bundle.six_1, Bundle.six_2, Bundle.six_5, mthw_2, mtho_2⟩
  | 3, _, _, h1, h2 => by cases h1; cases h2; exact ⟨by decide, by decide +kernel, 7, Bundle.six, Bundle.six_0, Bundle.six_1, Bundle.six_2, Bundle.six_5, mthw_3, mtho_3⟩
  | 4, _, _, h1, h2 => by cases h1; cases h2; exact ⟨by decide, by decide +kernel, 13, mrx4, mrx4_0, mrx4_1, mrx4_2, mrx4_5, mthw_4, mtho_4⟩
  | n + 5, _, _, h1, _ => by simp [mxl, mnx] at h1
theorem mth_hat {args : Array Value} {s : State} {adc adV : Nat → Nat} {S0 : Nat} {H : Heap} {X : String} {ic ix : Nat} {rx : ByteArray} (hts : ∀ w ∈ gtbl, w.before args s = true) (hE : mEX adc adV S0 s H) (hX : X ∈ mxl) (h : (mthw X ic ix rx).all (mthok X) = true) : ∀ w ∈ mthw X ic ix rx, w.before args s = true := by
  intro w hw
  have h1 := List.all_eq_true.mp h w hw
  unfold mthok at h1
  simp only [Bool.or_eq_true, Bool.and_eq_true, decide_eq_true_eq, List.any_eq_true] at h1
  rcases h1 with ⟨g, hm⟩ | rfl | ⟨x, hx, rfl⟩
  · exact hts w (List.mem_filter.mpr ⟨hm, g⟩)
  · exact va_Nw.use rfl (hE.2.2.2.2.2.1 X hX)
  · exact va_Nw.use rfl (hE.2.2.2.2.2.2.1 x hx)
end
section
/-! ===== BEGIN a constructor that throws (launches without stack traces) ===== -/
section VXIA
variable {p : Program} {l : Launch} {e : Env} {R : Room} {s : State} {m : MethodId} {args : Array Value} {below : List Frame} {meth : Method} {c : Code} {T : State} {locs : List Loc} {cells slots : Nat}
theorem vx_callI (X : Stand p l e R s m args below meth c T locs cells slots) (hexec : p.tables.exec = Jvm.exec) {own : String} {index : Nat} {y : MethodName} {bytes : ByteArray} {maxL : Nat}
    (hown : s.vm.findClass own = some m.cls) (hy1 : y.name = "<init>") (hlink : (Cond.methodLink own index y).before args s = true) (hinst : (Cond.instanceMethod y).before args s = true)
    (hcode : (Cond.code y bytes maxL none).before args s = true) (hy : y.cls ≠ "java/lang/invoke/MethodHandle" ∧ y.cls ≠ "java/lang/invoke/VarHandle")
    {W9 : Nat} {Pre : Pt → Array Value → Prop} {Post : Pt → Array Value → Option Value → Pt → Prop} {PostX : Pt → Array Value → Addr → Pt → Prop} (hK : vx_Back l R p e below s args y 3 W9 Pre Post PostX)
    {g : JFrame} (hg : g.method = m) (hsize : g.locals.size = c.maxLocals) {a : Addr} {argsL rest : List Value} (hlen : ∀ sig, parseMethodDescriptor y.desc = some sig → argsL.length = sig.parameters.length)
    (hstack : g.stack = argsL.reverse ++ .ref a :: rest) (hW : 2 * g.monitorRoom + (rest.map fun v => v.category).sum ≤ W9) (hdg : decode c.code g.pc = .ok (.invokespecial index, 3))
    (hpre : ∀ vm₁, s.WarmedH vm₁ → Pre ⟨T.setVm vm₁, locs, cells, slots⟩ (Value.ref a :: argsL).toArray) :
    (∃ (v : Option Value) (vm₁ : Vm) (B : Pt), s.WarmedH vm₁ ∧ Stand p l e R s m args below meth c B.U B.locs B.cells B.slots ∧ Post ⟨T.setVm vm₁, locs, cells, slots⟩ (Value.ref a :: argsL).toArray v B ∧
      ∀ target, Steps p.tables e below (B.U.setTop { g with pc := g.pc + 3, stack := v.toList ++ rest }) target → Steps p.tables e below (T.setTop g) target) ∨
    (∃ (q : Addr) (vm₁ : Vm) (B : Pt), s.WarmedH vm₁ ∧ Stand p l e R s m args below meth c B.U B.locs B.cells B.slots ∧ PostX ⟨T.setVm vm₁, locs, cells, slots⟩ (Value.ref a :: argsL).toArray q B ∧
      Steps p.tables e below (T.setTop g) ((B.U.setTop { g with stack := rest }).pushFrame (.throwing q))) := by
  subst hg
  have hpl : e.platform.magicAccessors = ({} : Platform).magicAccessors := by rw [X.admits.platform]
  obtain ⟨mk, methM, cM, kP, vm₁, hnamed, hmethM, hcodeM, -, hlocalsM, -, hkP, -, hW₁, hstep₁⟩ := Steps.initColdArgs (e := e) X.here hexec X.warmed hpl hown hy1 hy hlink hinst hcode (f := g) rfl hlen hstack hdg
  have X₁ := X.noted hW₁
  rcases hK g.method meth c ⟨T.setVm vm₁, locs, cells, slots⟩ { g with stack := rest } (.invokespecial index) mk (Value.ref a :: argsL).toArray X₁ rfl hsize hdg hW (X₁.named hnamed) (hpre vm₁ X₁.warmed) with ⟨v, B, X', hpost, hsteps⟩ | ⟨q, B, X', hpost, hsteps⟩
  · exact Or.inl ⟨v, vm₁, B, X₁.warmed, X', hpost, fun target h => hstep₁ _ fun acts => by rw [doInvoke_state]; exact hsteps.trans h⟩
  · exact Or.inr ⟨q, vm₁, B, X₁.warmed, X', hpost, hstep₁ _ fun acts => by rw [doInvoke_state]; exact hsteps⟩
end VXIA
section VXIB
variable {p : Program} {l : Launch} {e : Env} {R : Room} {s : State} {m : MethodId} {args : Array Value} {below : List Frame} {meth : Method} {c : Code} {H : Heap} {locs : List Loc} {cells slots : Nat}
variable {y : MethodName} {bytes cc : ByteArray} {maxL nL mc ms n index : Nat} {ret : Option FieldType} {ws : List Cond} {rm : Room} {Pc : Array Value → State → Prop} {Qc : Array Value → State → Outcome → State → Prop} {XC : String → State → State → Prop} {free : Addr → Prop} {Ts : List Cond} {own C : String} {b : Addr} {As rest : List Value} {g : JFrame}
theorem vx_runI (S : CallFix p m c cc nL s args Ts own) (hM : vx_Met l y ws rm Pc Qc XC mc ms free) (cw : CallB R s args own index y bytes maxL none ws rm mc ms n ∧ y.name = "<init>" ∧ (Cond.instanceMethod y).before args s = true) (hp : PreS s H Pc (.ref b :: As))
    (hg : g.method = m) (hn : As.length = n) (hsize : g.locals.size = nL) (hstack : g.stack = As.reverse ++ .ref b :: rest) (hW : 2 * g.monitorRoom + (rest.map fun v => v.category).sum ≤ 8) (hdg : decode cc g.pc = .ok (.invokespecial index, 3)) (hf : cells + mc ≤ R.cells ∧ slots + ms ≤ R.slots) :
    vx_Run p l e R s m args below meth c H locs cells slots mc ms g rest (Qc (Value.ref b :: As).toArray) XC free := by
  have hK : vx_Back l R p e below s args y 3 8 (PreOf R mc ms Pc) (PostOf Qc mc ms free) (vx_Post XC mc ms free) := vx_callBack cw.1 hM hp.1
  obtain ⟨⟨-, -, -, -, -, -, hcode, -, hy, hlen, hl⟩, hy1, hin⟩ := cw
  obtain ⟨hx, hb, hml, ho, -⟩ := S
  have hPc := hp.2
  intro T hT X
  rcases vx_callI X hx (bytes := bytes) (maxL := maxL) ho hy1 hl hin hcode hy hK hg (hsize.trans hml.symm) (a := b) (argsL := As) (rest := rest) (fun sig h => hn.trans (hlen sig h)) hstack hW (by rw [hb]; exact hdg)
    (fun vm₁ hW₁ => ⟨hf.1, hf.2, hPc (T.setVm vm₁) hT hW₁⟩) with ⟨v, vm₁, ⟨U', l2, c2, s2⟩, hW₁, X', ⟨g', mk, t, L, e1, e2, hq, h1, hL, h2, h3⟩, st⟩ | ⟨q, vm₁, ⟨U', l2, c2, s2⟩, hW₁, X', ⟨g', mk, t, L, E, ce, e1, e2, hq, hce, hcv, hcl, h1, hL, h2, h3⟩, st⟩
  · dsimp only [Pt.U, Pt.locs, Pt.cells, Pt.slots] at X' e1 e2 h1 h2 h3 st
    subst h1; subst h2; subst h3
    exact Or.inl ⟨v, (T.setVm vm₁).calling g' mk (Value.ref b :: As).toArray, t, U', L, hT, X', hL, e1, e2, hq, st⟩
  · dsimp only [Pt.U, Pt.locs, Pt.cells, Pt.slots] at X' e1 e2 h1 h2 h3 st hcl
    subst h1; subst h2; subst h3
    exact Or.inr ⟨q, (T.setVm vm₁).calling g' mk (Value.ref b :: As).toArray, t, U', L, E, ce, hT, X', hL, e1, e2, hq, hce, hcv, vx_cls hW₁ hcl, st⟩
end VXIB
/-! ===== END ===== -/
/-! ===== BEGIN a private constructor of a nest mate that throws ===== -/
section VXIC
variable {p : Program} {l : Launch} {e : Env} {R : Room} {s : State} {m : MethodId} {args : Array Value} {below : List Frame} {meth : Method} {c : Code} {T : State} {locs : List Loc} {cells slots : Nat}
theorem vx_callIN (X : Stand p l e R s m args below meth c T locs cells slots) (hexec : p.tables.exec = Jvm.exec) {own : String} {index : Nat} {host : String} {y : MethodName} {bytes : ByteArray} {maxL : Nat}
    (hown : s.vm.findClass own = some m.cls) (hy1 : y.name = "<init>") (hlink : (Cond.methodLinkNest own index y host).before args s = true) (hinst : (Cond.instanceMethod y).before args s = true)
    (hcode : (Cond.code y bytes maxL none).before args s = true) (hy : y.cls ≠ "java/lang/invoke/MethodHandle" ∧ y.cls ≠ "java/lang/invoke/VarHandle")
    {W9 : Nat} {Pre : Pt → Array Value → Prop} {Post : Pt → Array Value → Option Value → Pt → Prop} {PostX : Pt → Array Value → Addr → Pt → Prop} (hK : vx_Back l R p e below s args y 3 W9 Pre Post PostX)
    {g : JFrame} (hg : g.method = m) (hsize : g.locals.size = c.maxLocals) {a : Addr} {argsL rest : List Value} (hlen : ∀ sig, parseMethodDescriptor y.desc = some sig → argsL.length = sig.parameters.length)
    (hstack : g.stack = argsL.reverse ++ .ref a :: rest) (hW : 2 * g.monitorRoom + (rest.map fun v => v.category).sum ≤ W9) (hdg : decode c.code g.pc = .ok (.invokespecial index, 3))
    (hpre : ∀ vm₁, s.WarmedH vm₁ → Pre ⟨T.setVm vm₁, locs, cells, slots⟩ (Value.ref a :: argsL).toArray) :
    (∃ (v : Option Value) (vm₁ : Vm) (B : Pt), s.WarmedH vm₁ ∧ Stand p l e R s m args below meth c B.U B.locs B.cells B.slots ∧ Post ⟨T.setVm vm₁, locs, cells, slots⟩ (Value.ref a :: argsL).toArray v B ∧
      ∀ target, Steps p.tables e below (B.U.setTop { g with pc := g.pc + 3, stack := v.toList ++ rest }) target → Steps p.tables e below (T.setTop g) target) ∨
    (∃ (q : Addr) (vm₁ : Vm) (B : Pt), s.WarmedH vm₁ ∧ Stand p l e R s m args below meth c B.U B.locs B.cells B.slots ∧ PostX ⟨T.setVm vm₁, locs, cells, slots⟩ (Value.ref a :: argsL).toArray q B ∧
      Steps p.tables e below (T.setTop g) ((B.U.setTop { g with stack := rest }).pushFrame (.throwing q))) := by
  subst hg
  have hpl : e.platform.magicAccessors = ({} : Platform).magicAccessors := by rw [X.admits.platform]
  obtain ⟨mk, methM, cM, kP, vm₁, hnamed, hmethM, hcodeM, -, hlocalsM, -, hkP, -, hW₁, hstep₁⟩ := Steps.initColdArgsNest (e := e) X.here hexec X.warmed hpl hown hy1 hy hlink hinst hcode (f := g) rfl hlen hstack hdg
  have X₁ := X.noted hW₁
  rcases hK g.method meth c ⟨T.setVm vm₁, locs, cells, slots⟩ { g with stack := rest } (.invokespecial index) mk (Value.ref a :: argsL).toArray X₁ rfl hsize hdg hW (X₁.named hnamed) (hpre vm₁ X₁.warmed) with ⟨v, B, X', hpost, hsteps⟩ | ⟨q, B, X', hpost, hsteps⟩
  · exact Or.inl ⟨v, vm₁, B, X₁.warmed, X', hpost, fun target h => hstep₁ _ fun acts => by rw [doInvoke_state]; exact hsteps.trans h⟩
  · exact Or.inr ⟨q, vm₁, B, X₁.warmed, X', hpost, hstep₁ _ fun acts => by rw [doInvoke_state]; exact hsteps⟩
end VXIC
section VXID
variable {p : Program} {l : Launch} {e : Env} {R : Room} {s : State} {m : MethodId} {args : Array Value} {below : List Frame} {meth : Method} {c : Code} {H : Heap} {locs : List Loc} {cells slots : Nat}
theorem vx_runIN {y : MethodName} {bytes cc : ByteArray} {maxL nL mc ms n index : Nat} {ws : List Cond} {rm : Room} {Pc : Array Value → State → Prop} {Qc : Array Value → State → Outcome → State → Prop} {XC : String → State → State → Prop} {free : Addr → Prop} {Ts : List Cond} {own host : String} {b : Addr} {As rest : List Value} {g : JFrame}
    (S : CallFix p m c cc nL s args Ts own) (hM : vx_Met l y ws rm Pc Qc XC mc ms free) (cw : va_CN R s args own index y host bytes maxL none ws rm mc ms n ∧ y.name = "<init>" ∧ (Cond.instanceMethod y).before args s = true) (hp : PreS s H Pc (.ref b :: As))
    (hg : g.method = m) (hn : As.length = n) (hsize : g.locals.size = nL) (hstack : g.stack = As.reverse ++ .ref b :: rest) (hW : 2 * g.monitorRoom + (rest.map fun v => v.category).sum ≤ 8) (hdg : decode cc g.pc = .ok (.invokespecial index, 3)) (hf : cells + mc ≤ R.cells ∧ slots + ms ≤ R.slots) :
    vx_Run p l e R s m args below meth c H locs cells slots mc ms g rest (Qc (Value.ref b :: As).toArray) XC free := by
  obtain ⟨⟨⟨hrc, hrs, hfr, hlo, hws, hcw⟩, hcode, hini, hy, hlen, hl⟩, hx1, hx2⟩ := cw
  have hK : vx_Back l R p e below s args y 3 8 (PreOf R mc ms Pc) (PostOf Qc mc ms free) (vx_Post XC mc ms free) := vx_back (bytes := bytes) (maxL := maxL) (ret := none) hM hp.1 hrc hrs hfr hlo hws hcw (fun a' U hW => word_at hW (Or.inl (by first | rfl | simp [Cond.onTables, Cond.keeps, Cond.steady])) hini)
  obtain ⟨hx, hb, hml, ho, -⟩ := S
  have hPc := hp.2
  intro T hT X
  rcases vx_callIN X hx (bytes := bytes) (maxL := maxL) ho hx1 hl hx2 hcode hy hK hg (hsize.trans hml.symm) (a := b) (argsL := As) (rest := rest) (fun sig h => hn.trans (hlen sig h)) hstack hW (by rw [hb]; exact hdg)
    (fun vm₁ hW₁ => ⟨hf.1, hf.2, hPc (T.setVm vm₁) hT hW₁⟩) with ⟨v, vm₁, ⟨U', l2, c2, s2⟩, hW₁, X', ⟨g', mk, t, L, e1, e2, hq, h1, hL, h2, h3⟩, st⟩ | ⟨q, vm₁, ⟨U', l2, c2, s2⟩, hW₁, X', ⟨g', mk, t, L, E, ce, e1, e2, hq, hce, hcv, hcl, h1, hL, h2, h3⟩, st⟩
  · dsimp only [Pt.U, Pt.locs, Pt.cells, Pt.slots] at X' e1 e2 h1 h2 h3 st
    subst h1; subst h2; subst h3
    exact Or.inl ⟨v, (T.setVm vm₁).calling g' mk (Value.ref b :: As).toArray, t, U', L, hT, X', hL, e1, e2, hq, st⟩
  · dsimp only [Pt.U, Pt.locs, Pt.cells, Pt.slots] at X' e1 e2 h1 h2 h3 st hcl
    subst h1; subst h2; subst h3
    exact Or.inr ⟨q, (T.setVm vm₁).calling g' mk (Value.ref b :: As).toArray, t, U', L, E, ce, hT, X', hL, e1, e2, hq, hce, hcv, vx_cls hW₁ hcl, st⟩
end VXID
/-! ===== END ===== -/
/-! CALLS -/
theorem mfsE_eq : ∀ (a b : List mFs), mfsE a b = true → a = b
  | [], [], _ => rfl
  | none :: a, none :: b, h => by rw [mfsE_eq a b h]
  | some none :: a, some none :: b, h => by rw [mfsE_eq a b h]
  | some (some q) :: a, some (some q2) :: b, h => by
    simp only [mfsE, Bool.and_eq_true] at h
    rw [Nat.eq_of_beq_eq_true h.1, mfsE_eq a b h.2]
  | [], _ :: _, h => by simp [mfsE] at h
  | _ :: _, [], h => by simp [mfsE] at h
  | none :: _, some _ :: _, h => by simp [mfsE] at h
  | some none :: _, none :: _, h => by simp [mfsE] at h
  | some none :: _, some (some _) :: _, h => by simp [mfsE] at h
  | some (some _) :: _, none :: _, h => by simp [mfsE] at h
  | some (some _) :: _, some none :: _, h => by simp [mfsE] at h
theorem mrsE_eq : ∀ (a b : List (Option Nat)), mrsE a b = true → a = b
  | [], [], _ => rfl
  | none :: a, none :: b, h => by rw [mrsE_eq a b h]
  | some q :: a, some q2 :: b, h => by
    simp only [mrsE, Bool.and_eq_true] at h
    rw [Nat.eq_of_beq_eq_true h.1, mrsE_eq a b h.2]
  | [], _ :: _, h => by simp [mrsE] at h
  | _ :: _, [], h => by simp [mrsE] at h
  | none :: _, some _ :: _, h => by simp [mrsE] at h
  | some _ :: _, none :: _, h => by simp [mrsE] at h
theorem mshE_eq {a b : mSh} (h : mshE a b = true) : a = b := by
  rcases a with ⟨c, fs⟩ | n1 | n2 | rs <;> rcases b with ⟨c', fs'⟩ | m1 | m2 | rs' <;> simp only [mshE, Bool.and_eq_true, Bool.false_eq_true] at h
  · rw [Nat.eq_of_beq_eq_true h.1, mfsE_eq fs fs' h.2]
  · rw [Nat.eq_of_beq_eq_true h]
  · rw [Nat.eq_of_beq_eq_true h]
  · rw [mrsE_eq rs rs' h]
theorem mpre_at : ∀ (a b : List mSh), mpre a b = true → ∀ (j : Nat) (s : mSh), a[j]? = some s → b[j]? = some s
  | [], _, _, j, s, h => by simp at h
  | x :: a, y :: b, hp, 0, s, h => by
    simp only [mpre, Bool.and_eq_true] at hp
    rw [← mshE_eq hp.1]; exact h
  | x :: a, y :: b, hp, j + 1, s, h => by
    simp only [mpre, Bool.and_eq_true] at hp
    exact mpre_at a b hp.2 j s h
  | _ :: _, [], hp, _, _, _ => by simp [mpre] at hp
theorem mckF_ok {rg : List (Nat × Nat)} : ∀ (a b : List mFs), mckF rg a b = true → mokF (mtot rg) b = true
  | [], [], _ => rfl
  | none :: a, none :: b, h => mckF_ok a b h
  | some none :: a, some none :: b, h => mckF_ok a b h
  | some (some q) :: a, some (some q2) :: b, h => by
    simp only [mckF] at h
    split at h
    · rename_i j hj
      rw [Bool.and_eq_true] at h
      have e := Nat.eq_of_beq_eq_true h.1
      subst e
      simp only [mokF, Bool.and_eq_true]
      exact ⟨Nat.ble_eq_true_of_le (mlo_gl rg q j hj).2, mckF_ok a b h.2⟩
    · cases h
  | [], _ :: _, h => by simp [mckF] at h
  | _ :: _, [], h => by simp [mckF] at h
  | none :: _, some _ :: _, h => by simp [mckF] at h
  | some none :: _, none :: _, h => by simp [mckF] at h
  | some none :: _, some (some _) :: _, h => by simp [mckF] at h
  | some (some _) :: _, none :: _, h => by simp [mckF] at h
  | some (some _) :: _, some none :: _, h => by simp [mckF] at h
theorem mckR_ok {rg : List (Nat × Nat)} : ∀ (a b : List (Option Nat)), mckR rg a b = true → mokR (mtot rg) b = true
  | [], [], _ => rfl
  | none :: a, none :: b, h => mckR_ok a b h
  | some q :: a, some q2 :: b, h => by
    simp only [mckR] at h
    split at h
    · rename_i j hj
      rw [Bool.and_eq_true] at h
      have e := Nat.eq_of_beq_eq_true h.1
      subst e
      simp only [mokR, Bool.and_eq_true]
      exact ⟨Nat.ble_eq_true_of_le (mlo_gl rg q j hj).2, mckR_ok a b h.2⟩
    · cases h
  | [], _ :: _, h => by simp [mckR] at h
  | _ :: _, [], h => by simp [mckR] at h
  | none :: _, some _ :: _, h => by simp [mckR] at h
  | some _ :: _, none :: _, h => by simp [mckR] at h
theorem mckA_ok {rg : List (Nat × Nat)} {sh : List mSh} : ∀ (l : List mSh) (i : Nat), mckA rg sh i l = true → ∀ (j : Nat) (s : mSh), l[j]? = some s → mokS (mtot rg) [s] = true
  | [], _, _, j, s, h => by simp at h
  | x :: l, i, hc, 0, s, h => by
    simp only [mckA, Bool.and_eq_true] at hc
    rw [List.getElem?_cons_zero] at h
    cases h
    have h1 := hc.1
    generalize mnx sh (mgl rg i) = o at h1
    rcases o with _ | (⟨c, fs⟩ | n1 | n2 | rs) <;> rcases x with ⟨c', fs'⟩ | m1 | m2 | rs' <;> simp only [mck1, Bool.and_eq_true, Bool.false_eq_true] at h1
    · simp [mokS, mckF_ok fs fs' h1.2]
    · rfl
    · rfl
    · simp [mokS, mckR_ok rs rs' h1]
  | x :: l, i, hc, j + 1, s, h => by
    simp only [mckA, Bool.and_eq_true] at hc
    rw [List.getElem?_cons_succ] at h
    exact mckA_ok l (i + 1) hc.2 j s h
theorem mrv_eq {rg : List (Nat × Nat)} {ad : Nat → Nat} (hm : mtot rg ≤ 1000) : ∀ (as as2 : List Value), mrv rg as = some as2 → as2.map (mvm (mal rg ad)) = as.map (mvm ad)
  | [], as2, h => by cases h; rfl
  | v :: l, as2, h => by
    cases v with
    | ref r =>
      simp only [mrv] at h
      split at h
      · rename_i hr
        split at h
        · rename_i l2 hl
          cases h
          have e := mrv_eq (ad := ad) hm l l2 hl
          have h1 := Nat.le_of_ble_eq_true hr
          rw [List.map_cons, List.map_cons, e]
          simp only [mvm, mal, if_pos h1]
        · cases h
      · split at h
        · rename_i q hq
          split at h
          · rename_i l2 hl
            cases h
            have e := mrv_eq (ad := ad) hm l l2 hl
            rw [List.map_cons, List.map_cons, e]
            simp only [mvm, mal_lo hq hm]
          · cases h
        · cases h
    | _ =>
      simp only [mrv] at h
      split at h
      · rename_i l2 hl
        cases h
        have e := mrv_eq (ad := ad) hm l l2 hl
        rw [List.map_cons, List.map_cons, e]; rfl
      · cases h
def mAg (n : Nat) (ad2 ad : Nat → Nat) : Prop := ∀ i, (i < n ∨ 1000 ≤ i) → ad2 i = ad i
/-- a method's end: returned, or threw -/
def mQc (D : va_G) (cy : mCy) (A : Nat → Prop) (n : Nat) (ad : Nat → Nat) (Q : mPst) : Array Value → State → Outcome → State → Prop := fun _ st oc t =>
  (∃ (v : Option Value) (sh2 : List mSh) (σ2 : mSg) (ad2 : Nat → Nat), oc = .returned (v.map (mvm ad2)) ∧ Q (.inl v) sh2 σ2 ∧ (mAg n ad2 ad ∧ n ≤ sh2.length) ∧ va_P D vwCl (mwd cy ad2 σ2 0 sh2) t.heap ∧ va_D A (mwd cy ad2 σ2 0 sh2)) ∧ va_F A st t
def mXc (D : va_G) (cy : mCy) (A : Nat → Prop) (n : Nat) (ad : Nat → Nat) (Q : mPst) : String → State → State → Prop := fun E st t =>
  (∃ (x : Nat) (sh2 : List mSh) (σ2 : mSg) (ad2 : Nat → Nat), mnx mxl x = some E ∧ Q (.inr x) sh2 σ2 ∧ (mAg n ad2 ad ∧ n ≤ sh2.length) ∧ va_P D vwCl (mwd cy ad2 σ2 0 sh2) t.heap ∧ va_D A (mwd cy ad2 σ2 0 sh2)) ∧ va_F A st t
def mPr (D : va_G) (cy : mCy) (S0 : Nat) (adc adV : Nat → Nat) (as : List Value) (ad : Nat → Nat) (sh : List mSh) (σ : mSg) (sz : Nat) : Array Value → State → Prop :=
  va_Pc (as.map (mvm ad)) (fun U => U.heap.size = sz ∧ va_P D vwCl (mwd cy ad σ 0 sh) U.heap ∧ va_K D vwCl (mtys cy) U ∧ va_D (fun q => S0 ≤ q) (mwd cy ad σ 0 sh) ∧ S0 ≤ sz ∧ mEX adc adV S0 U U.heap)
/-- a method by its name: code, locals, answer, handlers -/
abbrev mMn : Type := MethodName × ByteArray × Nat × Option FieldType × List (Nat × Nat × Nat × Nat)
def mcw (q : mMn) : Cond := match q.2.2.2.2 with
  | [] => .code q.1 q.2.1 q.2.2.1 q.2.2.2.1
  | h :: hh => .codeWith q.1 q.2.1 q.2.2.1 q.2.2.2.1 (h :: hh)
def mRm (d mc ms : Nat) : Room := { frames := 20 + d, cells := mc, slots := ms, locals := 400 + 60 * d }
def mMet (l : Launch) (D : va_G) (cy : mCy) (S0 : Nat) (adc adV : Nat → Nat) (q : mMn) (d mc ms : Nat) (as : List Value) (sh : List mSh) (σ : mSg) (Q : mPst) : Prop :=
  ∀ (ad : Nat → Nat) (sz : Nat), (∀ i, 1000 ≤ i → ad i = adc i) → vx_Met l q.1 (mcw q :: gtbl) (mRm d mc ms) (mPr D cy S0 adc adV as ad sh σ sz) (mQc D cy (va_A (mwd cy ad σ 0 sh) sz) sh.length ad Q) (mXc D cy (va_A (mwd cy ad σ 0 sh) sz) sh.length ad Q) mc ms (va_A (mwd cy ad σ 0 sh) sz)
theorem mPr_blind {D : va_G} {cy : mCy} {S0 : Nat} {adc adV : Nat → Nat} {as : List Value} {ad : Nat → Nat} {sh : List mSh} {σ : mSg} {sz : Nat} : FrameBlind (mPr D cy S0 adc adV as ad sh σ sz) := fun a U g mk h => by
  obtain ⟨q0, q1, qP, qK, qD, qS, qE⟩ := h
  exact ⟨q0, q1, qP, va_K.moved (u := U) (U := U.calling g mk a) (Vm.Alike.refl U.vm) qK, qD, qS, qE.blind g mk a⟩
/-- what the tables say of a method that is called: k 0 by its object, 1 static, 2 a constructor -/
def mmb (q : mMn) (n : Nat) : Bool := decide (q.1.cls ≠ "java/lang/invoke/MethodHandle") && (decide (q.1.cls ≠ "java/lang/invoke/VarHandle") && (decide ((parseMethodDescriptor q.1.desc).map (fun d => d.parameters.length) = some n) && Nat.ble q.2.2.1 41))
theorem mmb_at {q : mMn} {n : Nat} (h : mmb q n = true) : (q.1.cls ≠ "java/lang/invoke/MethodHandle" ∧ q.1.cls ≠ "java/lang/invoke/VarHandle" ∧ (parseMethodDescriptor q.1.desc).map (fun d => d.parameters.length) = some n) ∧ q.2.2.1 ≤ 41 := by
  simp only [mmb, Bool.and_eq_true, decide_eq_true_eq] at h
  exact ⟨⟨h.1, h.2.1, h.2.2.1⟩, Nat.le_of_ble_eq_true h.2.2.2⟩
theorem mgG {X : List Cond} (h : ∀ w ∈ X, w ∈ gtbl) : GoodIn gtbl X := fun w hw => ⟨h w hw, good_of_word (List.mem_filter.mp (h w hw)).2⟩
section MCL
variable {p : Program} {l : Launch} {e : Env} {R : Room} {s : State} {m : MethodId} {args : Array Value} {below : List Frame} {meth : Method} {c : Code} {H : Heap} {locs : List Loc} {cells slots : Nat} {WQ : State → Prop}
variable {own : String} {cc : ByteArray} {nL : Nat} {D : va_G} {cy : mCy} {A : Nat → Prop} {pc : Nat} {ad : Nat → Nat} {L : mLc} {sh : List mSh} {σ : mSg} {ls : Array Slot} {rest : List Value} {S0 : Nat} {adc adV : Nat → Nat}
theorem mpr_of {as : List Value} {ad2 : Nat → Nat} {sh2 : List mSh} {σ2 : mSg} {vs : List Value} (hy : mHy p s m args c own cc nL D cy A) (h : mRl s D cy A nL ad L sh σ H locs ls) (hE : mEX adc adV S0 s s.heap) (hAS : ∀ q, A q → S0 ≤ q) (hS0 : S0 ≤ s.heap.size) (hP2 : va_P D vwCl (mwd cy ad2 σ2 0 sh2) H) (hD2 : va_D (fun q => S0 ≤ q) (mwd cy ad2 σ2 0 sh2)) (hvs : as.map (mvm ad2) = vs) :
    ∀ U : State, U.heap = H → s.WarmedH U.vm → mPr D cy S0 adc adV as ad2 sh2 σ2 H.size vs.toArray U := by
  obtain ⟨hx, hbc, hml, hown, hts, hK, hA⟩ := hy
  obtain ⟨hP, hD, hS, hL⟩ := h
  intro U hU hW
  refine ⟨by rw [hvs], by rw [hU], by rw [hU]; exact hP2, va_K.moved hW.alike hK, hD2, Nat.le_trans hS0 hS.1, ?_⟩
  rw [hU]
  exact mEX.warm hW (hE.kept fun a ha hna => hS.2.1 a ha (fun z => hna (hAS a z)))
/-- behind a call -/
theorem mW_run {mc ms : Nat} {st0 : List Value} {Qa : State → Outcome → State → Prop} {XC : String → State → State → Prop} {free : Addr → Prop} {A1 : Nat → Prop} (hr : vx_Run p l e R s m args below meth c H locs cells slots mc ms (F0 m pc ls st0) rest Qa XC free) (hS : va_S A s.heap H locs) (hA1 : ∀ q, A1 q → A q) (hf : ∀ q, free q → A q) (hq : ∀ st o t, Qa st o t → va_F A1 st t) (hx : ∀ E st t, XC E st t → va_F A1 st t)
    (kr : ∀ (v : Option Value) (st₀ t : State) (H1 : Heap) (locs1 : List Loc), Qa st₀ (.returned v) t → t.heap = H1 → (∀ q : Nat, q < H.size → ¬ A1 q → H1[q]? = H[q]?) → va_S A s.heap H1 locs1 → W p l e R s m args below meth c H1 locs1 (cells + mc) (slots + ms) WQ (F0 m (pc + 3) ls (v.toList ++ rest)))
    (kx : ∀ (E : String) (ce : Cell) (q : Addr) (st₀ t : State) (H1 : Heap) (locs1 : List Loc), XC E st₀ t → t.heap = H1 → (∀ q : Nat, q < H.size → ¬ A1 q → H1[q]? = H[q]?) → va_S A s.heap H1 locs1 → H1[q]? = some ce → ce.vm = .none → s.vm.findClass E = some ce.cls → vx_W p l e R s m args below meth c H1 locs1 (cells + mc) (slots + ms) WQ (F0 m pc ls rest) q) :
    W p l e R s m args below meth c H locs cells slots WQ (F0 m pc ls st0) := by
  intro T hT X
  rcases hr T hT X with ⟨v, st₀, t, T', L1, h0, X', hL1, e1, e2, hqa, st⟩ | ⟨q, st₀, t, T', L1, E, ce, h0, X', hL1, e1, e2, hxa, hce, hcv, hcl, st⟩
  · obtain ⟨k1, k2, k3⟩ := vx_keep h0 e1 hS (fun q _ z => hA1 q z) hf hL1 (hq _ _ _ hqa)
    obtain ⟨t2, a1, b1⟩ := kr v st₀ t T'.heap (locs ++ L1) hqa e1.symm k2 k3 T' rfl X'
    exact ⟨t2, st t2 a1, b1⟩
  · obtain ⟨k1, k2, k3⟩ := vx_keep h0 e1 hS (fun q _ z => hA1 q z) hf hL1 (hx _ _ _ hxa)
    obtain ⟨t2, a1, b1⟩ := kx E ce q st₀ t T'.heap (locs ++ L1) hxa e1.symm k2 k3 (by rw [e1]; exact hce) hcv hcl T' rfl X'
    exact ⟨t2, st.trans a1, b1⟩
end MCL
end
section
/-! WHAT A STRETCH OF CODE DOES -/
/-- what a read-only row holds: 1200 what the rat has; 1201 the script -/
def mrow (scr : Option (Nat × (Nat → Int32))) : Nat → Option (Nat × (Nat → Int32))
  | 1200 => some (4, mrat)
  | 1201 => scr
  | _ => none
/-- behind a call: returned, or thrown and caught here, or thrown on -/
def mend (J : mJt) (Q : mPst) (hs : List (Nat × Nat)) (L : mLc) (c n : Nat) (K : List Value → List mSh → mSg → Prop) (o : mOut) (sh : List mSh) (σ : mSg) : Prop := match o with
  | .inl none => K [] sh σ
  | .inl (some v) => K [v] sh σ
  | .inr x => match mhd hs x with
    | some t => J t (mkl 0 L) [] sh σ c n
    | none => Q (.inr x) sh σ
/-- behind a call that saw a part of the world: its new cells are let go, an answer is a number -/
def mloc (shl : List mSh) (K : mOut → mSg → Prop) (o : mOut) (sh2 : List mSh) (σ2 : mSg) : Prop := match mpre shl sh2 with
  | true => match o with
    | .inl (some (.int x)) => K (.inl (some (.int x))) σ2
    | .inl (some (.long x)) => K (.inl (some (.long x))) σ2
    | .inl none => K (.inl none) σ2
    | .inr x => K (.inr x) σ2
    | _ => False
  | false => False
/-- the receiver is an object of a class -/
def mrc (sh : List mSh) (k : Nat) : List Value → Bool
  | .ref r :: _ => match mnx sh r with | some (.inl (c, _)) => Nat.beq c k | _ => false
  | _ => false
/-- a text's length, a sign of it -/
def mslen (g : Bool) (r : Nat) (K : Int32 → Prop) : Prop := match g with
  | true => match mstr (r - 1000) with
    | [] => False
    | z :: cs => K (nI (z :: cs).length)
  | false => False
def mschr (g : Bool) (r : Nat) (x : Int32) (K : Int32 → Prop) : Prop := match g with
  | true => match mstr (r - 1000) with
    | [] => False
    | z :: cs => vp_in x (z :: cs).length ∧ K (nI ((z :: cs).getD x.toNatClampNeg 0))
  | false => False
/-- a stretch of code: C what calls do, mi cells, slots and the class of a method, msp the shapes that a method sees, scr the script, mc and ms the room, rb whether a boolean is answered, J labels, Q the end -/
def bx (C : mCt) (mi : Nat → Nat × Nat × Nat) (msp : Nat → List mSh) (scr : Option (Nat × (Nat → Int32))) (mc ms : Nat) (rb : Bool) (J : mJt) (Q : mPst) : List mIt → mLc → List Value → List mSh → mSg → Nat → Nat → Prop
  | [], _, _, _, _, _, _ => False
  | (i, _, _, a, b, d, ps) :: is, L, st, sh, σ, c, n => match i with
    | .nop => J a (mkl b L) st sh σ c n
    | .goto _ => J a (mkl b L) st sh σ c n
    | .ifCond k _ => match st with
      | .int x :: r => mbr k x 0 (J a (mkl b L) r sh σ c n) (bx C mi msp scr mc ms rb J Q is L r sh σ c n)
      | _ => False
    | .if_icmp k _ => match st with
      | .int y :: .int x :: r => mbr k x y (J a (mkl b L) r sh σ c n) (bx C mi msp scr mc ms rb J Q is L r sh σ c n)
      | _ => False
    | .tableswitch _ lo hi _ => match st with
      | .int x :: r => (x.toInt < lo ∨ hi < x.toInt → J a (mkl b L) r sh σ c n) ∧ msw x (fun t m => J t (mkl m L) r sh σ c n) lo ps
      | _ => False
    | .istore k => match st with | .int x :: r => bx C mi msp scr mc ms rb J Q is (mst1 L k (.int x)) r sh σ c n | _ => False
    | .istore_n k => match st with | .int x :: r => bx C mi msp scr mc ms rb J Q is (mst1 L k.val (.int x)) r sh σ c n | _ => False
    | .astore k => match st with | .ref x :: r => bx C mi msp scr mc ms rb J Q is (mst1 L k (.ref x)) r sh σ c n | _ => False
    | .astore_n k => match st with | .ref x :: r => bx C mi msp scr mc ms rb J Q is (mst1 L k.val (.ref x)) r sh σ c n | _ => False
    | .lstore k => match st with | .long x :: r => bx C mi msp scr mc ms rb J Q is (mst2 L k (.long x)) r sh σ c n | _ => False
    | .lstore_n k => match st with | .long x :: r => bx C mi msp scr mc ms rb J Q is (mst2 L k.val (.long x)) r sh σ c n | _ => False
    | .iinc k _ => match mnx L k with
      | some (some (.int x)) => bx C mi msp scr mc ms rb J Q is (mst1 L k (.int (match d with | 0 => x + nI a | _ => x - nI a))) st sh σ c n
      | _ => False
    | .idiv => match st with | .int y :: .int x :: r => ¬ y = 0 ∧ bx C mi msp scr mc ms rb J Q is L (.int (x / y) :: r) sh σ c n | _ => False
    | .irem => match st with | .int y :: .int x :: r => ¬ y = 0 ∧ bx C mi msp scr mc ms rb J Q is L (.int (x - x / y * y) :: r) sh σ c n | _ => False
    | .ldiv => match st with | .long y :: .long x :: r => ¬ y = 0 ∧ bx C mi msp scr mc ms rb J Q is L (.long (x / y) :: r) sh σ c n | _ => False
    | .getstatic _ => bx C mi msp scr mc ms rb J Q is L (.ref 1200 :: st) sh σ c n
    | .getfield _ => match st with
      | .ref r :: rest => match mnx sh r with
        | some (.inl (k, fs)) => match Nat.beq k a with
          | true => match mnx fs b with
            | some none => bx C mi msp scr mc ms rb J Q is L (.int (σ r b) :: rest) sh σ c n
            | some (some (some q)) => bx C mi msp scr mc ms rb J Q is L (.ref q :: rest) sh σ c n
            | _ => False
          | false => False
        | _ => False
      | _ => False
    | .putfield _ => match st with
      | .int x :: .ref r :: rest => match mnx sh r with
        | some (.inl (k, fs)) => match Nat.beq k a with
          | true => match mnx fs b with
            | some none => match d with
              | 0 => bx C mi msp scr mc ms rb J Q is L rest sh (mput σ r b x) c n
              | 1 => (x = 0 ∨ x = 1) ∧ bx C mi msp scr mc ms rb J Q is L rest sh (mput σ r b x) c n
              | _ => False
            | _ => False
          | false => False
        | _ => False
      | .ref q :: .ref r :: rest => match mnx sh r with
        | some (.inl (k, fs)) => match Nat.beq k a && Nat.blt q 1000 with
          | true => match mnx fs b with
            | some (some _) => match d with
              | 2 => bx C mi msp scr mc ms rb J Q is L rest (mse sh r (.inl (k, mse fs b (some (some q))))) σ c n
              | _ => False
            | _ => False
          | false => False
        | _ => False
      | _ => False
    | .iaload => match st with
      | .int x :: .ref r :: rest => match Nat.ble 1000 r with
        | true => match mrow scr r with
          | some (N, f) => vp_in x N ∧ bx C mi msp scr mc ms rb J Q is L (.int (f x.toNatClampNeg) :: rest) sh σ c n
          | none => False
        | false => match mnx sh r with
          | some (.inr (.inl N)) => vp_in x N ∧ bx C mi msp scr mc ms rb J Q is L (.int (σ r x.toNatClampNeg) :: rest) sh σ c n
          | _ => False
      | _ => False
    | .iastore => match st with
      | .int v :: .int x :: .ref r :: rest => match mnx sh r with
        | some (.inr (.inl N)) => vp_in x N ∧ bx C mi msp scr mc ms rb J Q is L rest sh (mput σ r x.toNatClampNeg v) c n
        | _ => False
      | _ => False
    | .laload => match st with
      | .int x :: .ref r :: rest => match mnx sh r with
        | some (.inr (.inr (.inl N))) => vp_in x N ∧ bx C mi msp scr mc ms rb J Q is L (.long (σ r x.toNatClampNeg).toInt64 :: rest) sh σ c n
        | _ => False
      | _ => False
    | .lastore => match st with
      | .long v :: .int x :: .ref r :: rest => match mnx sh r with
        | some (.inr (.inr (.inl N))) => vp_in x N ∧ v.toInt32.toInt64 = v ∧ bx C mi msp scr mc ms rb J Q is L rest sh (mput σ r x.toNatClampNeg v.toInt32) c n
        | _ => False
      | _ => False
    | .aaload => match st with
      | .int x :: .ref r :: rest => match mnx sh r with
        | some (.inr (.inr (.inr rs))) => vp_in x rs.length ∧ ∃ q, mnx rs x.toNatClampNeg = some (some q) ∧ bx C mi msp scr mc ms rb J Q is L (.ref q :: rest) sh σ c n
        | _ => False
      | _ => False
    | .aastore => match st with
      | .ref q :: .int x :: .ref r :: rest => match mnx sh r, mnx sh q with
        | some (.inr (.inr (.inr rs))), some (.inl (7, _)) => match Nat.blt q 1000 with
          | true => vp_in x rs.length ∧ bx C mi msp scr mc ms rb J Q is L rest (mse sh r (.inr (.inr (.inr (mse rs x.toNatClampNeg (some q)))))) σ c n
          | false => False
        | _, _ => False
      | _ => False
    | .arraylength => match st with
      | .ref r :: rest => match Nat.ble 1000 r with
        | true => match r with
          | 1201 => match scr with
            | some (N, _) => bx C mi msp scr mc ms rb J Q is L (.int (nI N) :: rest) sh σ c n
            | none => False
          | _ => False
        | false => match mnx sh r with
          | some (.inr (.inl N)) => bx C mi msp scr mc ms rb J Q is L (.int (nI N) :: rest) sh σ c n
          | some (.inr (.inr (.inr rs))) => bx C mi msp scr mc ms rb J Q is L (.int (nI rs.length) :: rest) sh σ c n
          | _ => False
      | _ => False
    | .newarray t => match st with
      | .int x :: rest => match (mokV sh.length rest && mokL sh.length L) && (mokS sh.length sh && (Nat.blt sh.length 1000 && (Nat.ble (c + 1) mc && (Nat.ble (n + a) ms && Nat.ble a 100000)))) with
        | true => match t with
          | .int => x = nI a ∧ bx C mi msp scr mc ms rb J Q is L (.ref sh.length :: rest) (sh ++ [.inr (.inl a)]) (mnew σ sh.length) (c + 1) (n + a)
          | .long => x = nI a ∧ bx C mi msp scr mc ms rb J Q is L (.ref sh.length :: rest) (sh ++ [.inr (.inr (.inl a))]) (mnew σ sh.length) (c + 1) (n + a)
          | _ => False
        | false => False
      | _ => False
    | .anewarray _ => match st with
      | .int x :: rest => match (mokV sh.length rest && mokL sh.length L) && (mokS sh.length sh && (Nat.blt sh.length 1000 && (Nat.ble (c + 1) mc && (Nat.ble (n + a) ms && Nat.ble a 100000)))) with
        | true => x = nI a ∧ bx C mi msp scr mc ms rb J Q is L (.ref sh.length :: rest) (sh ++ [.inr (.inr (.inr (List.replicate a none)))]) (mnew σ sh.length) (c + 1) (n + a)
        | false => False
      | _ => False
    | .new _ => match d with
      | 9 => match Nat.ble (mcat st) 8 && (Nat.ble (c + 1) mc && Nat.ble (n + 6) ms) with
        | true => Q (.inr a) sh σ
        | false => False
      | 0 => match (mokV sh.length st && mokL sh.length L) && (mokS sh.length sh && (Nat.blt sh.length 1000 && (Nat.ble (c + 1) mc && Nat.ble (n + (mbf a).length) ms))) with
        | true => bx C mi msp scr mc ms rb J Q is L (.ref sh.length :: st) (sh ++ [.inl (a, mbf a)]) (mnew σ sh.length) (c + 1) (n + (mbf a).length)
        | false => False
      | _ => False
    | .invokevirtual _ => match d with
      | 7 => match st with
        | .ref r :: rest => mslen (Nat.ble 1000 r && (Nat.ble (mcat rest) 8 && (Nat.ble c mc && Nat.ble n ms))) r (fun x => bx C mi msp scr mc ms rb J Q is L (.int x :: rest) sh σ c n)
        | _ => False
      | 8 => match st with
        | .int x :: .ref r :: rest => mschr (Nat.ble 1000 r && (Nat.ble (mcat rest) 8 && (Nat.ble c mc && Nat.ble n ms))) r x (fun y => bx C mi msp scr mc ms rb J Q is L (.int y :: rest) sh σ c n)
        | _ => False
      | 0 => match mrc sh (mi a).2.2 (mtk b st).reverse && ((mokV sh.length (mdr b st) && mokL sh.length L) && ((Nat.ble b st.length && Nat.ble (mcat (mdr b st)) 8) && (Nat.ble (c + (mi a).1) mc && Nat.ble (n + (mi a).2.1) ms))) with
        | true => C a (mtk b st).reverse sh σ (mend J Q ps L (c + (mi a).1) (n + (mi a).2.1) (fun v sh2 σ2 => bx C mi msp scr mc ms rb J Q is L (v ++ mdr b st) sh2 σ2 (c + (mi a).1) (n + (mi a).2.1)))
        | false => False
      | 1 => match mrc sh (mi a).2.2 (mtk b st).reverse && (mck (mrg sh (mtk b st).reverse) sh (msp a) && ((Nat.ble b st.length && Nat.ble (mcat (mdr b st)) 8) && (Nat.ble (c + (mi a).1) mc && Nat.ble (n + (mi a).2.1) ms))) with
        | true => match mrv (mrg sh (mtk b st).reverse) (mtk b st).reverse with
          | some as => C a as (msp a) (fun j => σ (mgl (mrg sh (mtk b st).reverse) j)) (mloc (msp a) (fun o σ2 => mend J Q ps L (c + (mi a).1) (n + (mi a).2.1) (fun v sh2 σ3 => bx C mi msp scr mc ms rb J Q is L (v ++ mdr b st) sh2 σ3 (c + (mi a).1) (n + (mi a).2.1)) o sh (mback (mrg sh (mtk b st).reverse) σ σ2)))
          | none => False
        | false => False
      | _ => False
    | .invokestatic _ => match d with
      | 2 => match st with | .int y :: .int x :: r => (match (Nat.ble (mcat r) 8 && (Nat.ble c mc && Nat.ble n ms)) with | true => bx C mi msp scr mc ms rb J Q is L (.int (if x < y then y else x) :: r) sh σ c n | false => False) | _ => False
      | 3 => match st with | .int y :: .int x :: r => (match (Nat.ble (mcat r) 8 && (Nat.ble c mc && Nat.ble n ms)) with | true => bx C mi msp scr mc ms rb J Q is L (.int (if x < y then x else y) :: r) sh σ c n | false => False) | _ => False
      | 4 => match st with | .int x :: r => (match (Nat.ble (mcat r) 8 && (Nat.ble c mc && Nat.ble n ms)) with | true => bx C mi msp scr mc ms rb J Q is L (.int (if 0 ≤ x then x else 0 - x) :: r) sh σ c n | false => False) | _ => False
      | 5 => match st with
        | .int k :: .int dp :: .ref q :: .int sp :: .ref r :: rest => match mnx sh r, mnx sh q with
          | some (.inr (.inl N)), some (.inr (.inl M)) => match (Nat.ble (mcat rest) 8 && (Nat.ble c mc && Nat.ble n ms)) with
            | true => (¬ sp < 0 ∧ ¬ dp < 0 ∧ ¬ k < 0 ∧ sp.toNatClampNeg + k.toNatClampNeg ≤ N ∧ dp.toNatClampNeg + k.toNatClampNeg ≤ M) ∧ bx C mi msp scr mc ms rb J Q is L rest sh (fun b2 => if b2 = q then va_cpy (σ r) (σ q) sp.toNatClampNeg dp.toNatClampNeg k.toNatClampNeg else σ b2) c n
            | false => False
          | _, _ => False
        | _ => False
      | 0 => match (mokV sh.length (mdr b st) && mokL sh.length L) && ((Nat.ble b st.length && Nat.ble (mcat (mdr b st)) 8) && (Nat.ble (c + (mi a).1) mc && Nat.ble (n + (mi a).2.1) ms)) with
        | true => C a (mtk b st).reverse sh σ (mend J Q ps L (c + (mi a).1) (n + (mi a).2.1) (fun v sh2 σ2 => bx C mi msp scr mc ms rb J Q is L (v ++ mdr b st) sh2 σ2 (c + (mi a).1) (n + (mi a).2.1)))
        | false => False
      | 1 => match mck (mrg sh (mtk b st).reverse) sh (msp a) && ((Nat.ble b st.length && Nat.ble (mcat (mdr b st)) 8) && (Nat.ble (c + (mi a).1) mc && Nat.ble (n + (mi a).2.1) ms)) with
        | true => match mrv (mrg sh (mtk b st).reverse) (mtk b st).reverse with
          | some as => C a as (msp a) (fun j => σ (mgl (mrg sh (mtk b st).reverse) j)) (mloc (msp a) (fun o σ2 => mend J Q ps L (c + (mi a).1) (n + (mi a).2.1) (fun v sh2 σ3 => bx C mi msp scr mc ms rb J Q is L (v ++ mdr b st) sh2 σ3 (c + (mi a).1) (n + (mi a).2.1)) o sh (mback (mrg sh (mtk b st).reverse) σ σ2)))
          | none => False
        | false => False
      | _ => False
    | .invokespecial _ => match d with
      | 6 => match st with | .ref _ :: r => (match (Nat.ble (mcat r) 8 && (Nat.ble c mc && Nat.ble n ms)) with | true => bx C mi msp scr mc ms rb J Q is L r sh σ c n | false => False) | _ => False
      | 0 => match mrc sh (mi a).2.2 (mtk b st).reverse && ((mokV sh.length (mdr b st) && mokL sh.length L) && ((Nat.ble b st.length && Nat.ble (mcat (mdr b st)) 8) && (Nat.ble (c + (mi a).1) mc && Nat.ble (n + (mi a).2.1) ms))) with
        | true => C a (mtk b st).reverse sh σ (mend J Q ps L (c + (mi a).1) (n + (mi a).2.1) (fun v sh2 σ2 => bx C mi msp scr mc ms rb J Q is L (v ++ mdr b st) sh2 σ2 (c + (mi a).1) (n + (mi a).2.1)))
        | false => False
      | _ => False
    | .ireturn => match st with
      | [.int x] => match Nat.ble c mc && Nat.ble n ms with
        | true => match rb with
          | true => (x = 0 ∨ x = 1) ∧ Q (.inl (some (.int x))) sh σ
          | false => Q (.inl (some (.int x))) sh σ
        | false => False
      | _ => False
    | .lreturn => match st with
      | [.long x] => match Nat.ble c mc && Nat.ble n ms with | true => Q (.inl (some (.long x))) sh σ | false => False
      | _ => False
    | .return_ => match st with
      | [] => match Nat.ble c mc && Nat.ble n ms with | true => Q (.inl none) sh σ | false => False
      | _ => False
    | j => match mpu j a d L st with
      | some st2 => bx C mi msp scr mc ms rb J Q is L st2 sh σ c n
      | none => False
end
section
/-! CALLS: from a callee's contract to the caller's next instruction -/
section MRN
variable {p : Program} {l : Launch} {e : Env} {R : Room} {s : State} {m : MethodId} {args : Array Value} {below : List Frame} {meth : Method} {c : Code} {H : Heap} {locs : List Loc} {cells slots : Nat} {WQ : State → Prop}
variable {own : String} {cc : ByteArray} {nL : Nat} {D : va_G} {cy : mCy} {A : Nat → Prop} {pc : Nat} {ad : Nat → Nat} {L : mLc} {sh : List mSh} {σ : mSg} {ls : Array Slot} {rest : List Value} {S0 : Nat} {adc adV : Nat → Nat}
variable {q : mMn} {d mc ms idx n : Nat} {as2 As : List Value} {b : Nat} {ad2 : Nat → Nat} {sh2 : List mSh} {σ2 : mSg} {Q2 : mPst}
theorem mrunV (hy : mHy p s m args c own cc nL D cy A) (h : mRl s D cy A nL ad L sh σ H locs ls) (hE : mEX adc adV S0 s s.heap) (hAS : ∀ q, A q → S0 ≤ q) (hS0 : S0 ≤ s.heap.size) (hM : mMet l D cy S0 adc adV q d mc ms as2 sh2 σ2 Q2) (hadc : ∀ i, 1000 ≤ i → ad2 i = adc i) (hh : q.2.2.2.2 = []) (hmm : mmb q n = true)
    (h1 : Cond.methodLink own idx q.1 ∈ gtbl) (h2 : Cond.instanceMethod q.1 ∈ gtbl) (h3 : Cond.selects q.1.cls q.1 q.1 ∈ gtbl) (h4 : Cond.initialized q.1.cls ∈ gtbl) (h5 : mcw q ∈ gtbl) (hrc : ∃ cell : Cell, H[b]? = some cell ∧ cell.vm.isStatics = false ∧ s.vm.findClass q.1.cls = some cell.cls)
    (hP2 : va_P D vwCl (mwd cy ad2 σ2 0 sh2) H) (hD2 : va_D (fun q => S0 ≤ q) (mwd cy ad2 σ2 0 sh2)) (hvs : as2.map (mvm ad2) = .ref b :: As) (hn : As.length = n) (hcat : (rest.map fun v => v.category).sum ≤ 8) (hd : decode cc pc = .ok (.invokevirtual idx, 3)) (hRf : 21 + d ≤ R.frames) (hRl : 460 + 60 * d ≤ R.locals) (hf : cells + mc ≤ R.cells ∧ slots + ms ≤ R.slots) :
    vx_Run p l e R s m args below meth c H locs cells slots mc ms (F0 m pc ls (As.reverse ++ .ref b :: rest)) rest (mQc D cy (va_A (mwd cy ad2 σ2 0 sh2) H.size) sh2.length ad2 Q2 (Value.ref b :: As).toArray) (mXc D cy (va_A (mwd cy ad2 σ2 0 sh2) H.size) sh2.length ad2 Q2) (va_A (mwd cy ad2 σ2 0 sh2) H.size) := by
  obtain ⟨hmm1, hmm2⟩ := mmb_at hmm
  have hw : mcw q :: gtbl = Cond.code q.1 q.2.1 q.2.2.1 q.2.2.2.1 :: gtbl := by unfold mcw; rw [hh]
  have hT : GoodIn gtbl (wsV own idx q.1.cls q.1 (mcw q :: gtbl)) := mgG fun w hw => by
    unfold wsV at hw
    rcases List.mem_append.mp hw with z | z
    · simp only [List.mem_cons, List.not_mem_nil, or_false] at z
      rcases z with rfl | rfl | rfl | rfl <;> assumption
    · rcases List.mem_cons.mp z with rfl | z
      · exact h5
      · exact z
  obtain ⟨hx, hbc, hml, hown, hts, hK, hA⟩ := id hy
  exact vx_runV ⟨hx, hbc, hml, hown, hts⟩ (hM ad2 H.size hadc) (cwV n hts hT hw rfl rfl ⟨rfl, hmm1⟩ ⟨by simp only [mRm]; omega, by simp only [mRm]; omega⟩) ⟨mPr_blind, hrc, mpr_of hy h hE hAS hS0 hP2 hD2 hvs⟩ rfl hn h.2.2.2.1 rfl (lv_room hcat) hd hf
theorem mrunS (hy : mHy p s m args c own cc nL D cy A) (h : mRl s D cy A nL ad L sh σ H locs ls) (hE : mEX adc adV S0 s s.heap) (hAS : ∀ q, A q → S0 ≤ q) (hS0 : S0 ≤ s.heap.size) (hM : mMet l D cy S0 adc adV q d mc ms as2 sh2 σ2 Q2) (hadc : ∀ i, 1000 ≤ i → ad2 i = adc i) (hmm : mmb q n = true)
    (h1 : Cond.methodLink own idx q.1 ∈ gtbl) (h2 : Cond.static q.1 ∈ gtbl) (h4 : Cond.initialized q.1.cls ∈ gtbl) (h5 : mcw q ∈ gtbl)
    (hP2 : va_P D vwCl (mwd cy ad2 σ2 0 sh2) H) (hD2 : va_D (fun q => S0 ≤ q) (mwd cy ad2 σ2 0 sh2)) (hvs : as2.map (mvm ad2) = As) (hn : As.length = n) (hcat : (rest.map fun v => v.category).sum ≤ 8) (hd : decode cc pc = .ok (.invokestatic idx, 3)) (hRf : 21 + d ≤ R.frames) (hRl : 460 + 60 * d ≤ R.locals) (hf : cells + mc ≤ R.cells ∧ slots + ms ≤ R.slots) :
    vx_Run p l e R s m args below meth c H locs cells slots mc ms (F0 m pc ls (As.reverse ++ rest)) rest (mQc D cy (va_A (mwd cy ad2 σ2 0 sh2) H.size) sh2.length ad2 Q2 As.toArray) (mXc D cy (va_A (mwd cy ad2 σ2 0 sh2) H.size) sh2.length ad2 Q2) (va_A (mwd cy ad2 σ2 0 sh2) H.size) := by
  obtain ⟨hmm1, hmm2⟩ := mmb_at hmm
  have hT : GoodIn gtbl (va_wsS own idx q.1 (mcw q :: gtbl)) := mgG fun w hw => by
    unfold va_wsS at hw
    rcases List.mem_append.mp hw with z | z
    · simp only [List.mem_cons, List.not_mem_nil, or_false] at z
      rcases z with rfl | rfl | rfl <;> assumption
    · rcases List.mem_cons.mp z with rfl | z
      · exact h5
      · exact z
  obtain ⟨hx, hbc, hml, hown, hts, hK, hA⟩ := id hy
  cases hh : q.2.2.2.2 with
  | nil =>
    have hw : mcw q :: gtbl = Cond.code q.1 q.2.1 q.2.2.1 q.2.2.2.1 :: gtbl := by unfold mcw; rw [hh]
    exact vx_runS ⟨hx, hbc, hml, hown, hts⟩ (hM ad2 H.size hadc) (cwS' n hts hT hw rfl rfl hmm1 ⟨by simp only [mRm]; omega, by simp only [mRm]; omega⟩) ⟨mPr_blind, mpr_of hy h hE hAS hS0 hP2 hD2 hvs⟩ rfl hn h.2.2.2.1 rfl (lv_room hcat) hd hf
  | cons h0 hs =>
    have hw : mcw q :: gtbl = Cond.codeWith q.1 q.2.1 q.2.2.1 q.2.2.2.1 (h0 :: hs) :: gtbl := by unfold mcw; rw [hh]
    exact vx_runSX (hh := h0 :: hs) ⟨hx, hbc, hml, hown, hts⟩ (hM ad2 H.size hadc) (vx_cwSW n hts hT hw rfl rfl hmm1 ⟨by simp only [mRm]; omega, by simp only [mRm]; omega⟩) ⟨mPr_blind, mpr_of hy h hE hAS hS0 hP2 hD2 hvs⟩ rfl hn h.2.2.2.1 rfl (lv_room hcat) hd hf
theorem mrunI (hy : mHy p s m args c own cc nL D cy A) (h : mRl s D cy A nL ad L sh σ H locs ls) (hE : mEX adc adV S0 s s.heap) (hAS : ∀ q, A q → S0 ≤ q) (hS0 : S0 ≤ s.heap.size) (hM : mMet l D cy S0 adc adV q d mc ms as2 sh2 σ2 Q2) (hadc : ∀ i, 1000 ≤ i → ad2 i = adc i) (hh : q.2.2.2.2 = []) (hret : q.2.2.2.1 = none) (hinit : q.1.name = "<init>") (hmm : mmb q n = true)
    (h1 : Cond.methodLink own idx q.1 ∈ gtbl ∨ (own, idx, q.1) ∈ mnst) (h2 : Cond.instanceMethod q.1 ∈ gtbl) (h4 : Cond.initialized q.1.cls ∈ gtbl) (h5 : mcw q ∈ gtbl)
    (hP2 : va_P D vwCl (mwd cy ad2 σ2 0 sh2) H) (hD2 : va_D (fun q => S0 ≤ q) (mwd cy ad2 σ2 0 sh2)) (hvs : as2.map (mvm ad2) = .ref b :: As) (hn : As.length = n) (hcat : (rest.map fun v => v.category).sum ≤ 8) (hd : decode cc pc = .ok (.invokespecial idx, 3)) (hRf : 21 + d ≤ R.frames) (hRl : 460 + 60 * d ≤ R.locals) (hf : cells + mc ≤ R.cells ∧ slots + ms ≤ R.slots) :
    vx_Run p l e R s m args below meth c H locs cells slots mc ms (F0 m pc ls (As.reverse ++ .ref b :: rest)) rest (mQc D cy (va_A (mwd cy ad2 σ2 0 sh2) H.size) sh2.length ad2 Q2 (Value.ref b :: As).toArray) (mXc D cy (va_A (mwd cy ad2 σ2 0 sh2) H.size) sh2.length ad2 Q2) (va_A (mwd cy ad2 σ2 0 sh2) H.size) := by
  obtain ⟨hmm1, hmm2⟩ := mmb_at hmm
  have hw : mcw q :: gtbl = Cond.code q.1 q.2.1 q.2.2.1 none :: gtbl := by unfold mcw; rw [hh]; simp only [hret]
  have hG : GoodIn gtbl (mcw q :: gtbl) := mgG fun w hw => by
    rcases List.mem_cons.mp hw with rfl | z
    · exact h5
    · exact z
  obtain ⟨hx, hbc, hml, hown, hts, hK, hA⟩ := id hy
  rcases h1 with h1 | h1
  · exact vx_runI ⟨hx, hbc, hml, hown, hts⟩ (hM ad2 H.size hadc) (cwI n hts hG hw rfl rfl (hts _ h4) (hts _ h1) (hts _ h2) hinit hmm1 ⟨by simp only [mRm]; omega, by simp only [mRm]; omega⟩) ⟨mPr_blind, mpr_of hy h hE hAS hS0 hP2 hD2 hvs⟩ rfl hn h.2.2.2.1 rfl (lv_room hcat) hd hf
  · exact vx_runIN ⟨hx, hbc, hml, hown, hts⟩ (hM ad2 H.size hadc) ⟨va_cnB n hts hG hw rfl rfl (hE.2.2.2.2.2.2.2.1 _ h1) (hts _ h4) hmm1 ⟨by simp only [mRm]; omega, by simp only [mRm]; omega⟩, hinit, hts _ h2⟩ ⟨mPr_blind, mpr_of hy h hE hAS hS0 hP2 hD2 hvs⟩ rfl hn h.2.2.2.1 rfl (lv_room hcat) hd hf
end MRN
section MSL
variable {p : Program} {l : Launch} {e : Env} {R : Room} {s : State} {m : MethodId} {args : Array Value} {below : List Frame} {meth : Method} {c : Code} {H : Heap} {locs : List Loc} {cells slots : Nat} {WQ : State → Prop}
variable {own : String} {cc : ByteArray} {nL : Nat} {D : va_G} {cy : mCy} {A : Nat → Prop} {pc : Nat} {ad : Nat → Nat} {L : mLc} {sh : List mSh} {σ : mSg} {ls : Array Slot} {S0 : Nat} {adc adV : Nat → Nat} {mc ms : Nat} {st0 restM : List Value} {Q2 : mPst} {a0 : Array Value}
theorem mA_world {cy : mCy} {ad : Nat → Nat} {σ : mSg} {sh : List mSh} {A : Nat → Prop} {H0 H : Heap} {locs : List Loc} (hD : va_D A (mwd cy ad σ 0 sh)) (hS : va_S A H0 H locs) (hA : ∀ q, H0.size ≤ q → A q) : ∀ q, va_A (mwd cy ad σ 0 sh) H.size q → A q := by
  rintro q (⟨k, e, h⟩ | h)
  · exact hD.2 k (q, e) h
  · exact hA q (Nat.le_trans hS.1 h)
/-- the callee saw all of the world -/
theorem mW_same (hy : mHy p s m args c own cc nL D cy A) (h : mRl s D cy A nL ad L sh σ H locs ls) (hr : vx_Run p l e R s m args below meth c H locs cells slots mc ms (F0 m pc ls st0) (restM.map (mvm ad)) (mQc D cy (va_A (mwd cy ad σ 0 sh) H.size) sh.length ad Q2 a0) (mXc D cy (va_A (mwd cy ad σ 0 sh) H.size) sh.length ad Q2) (va_A (mwd cy ad σ 0 sh) H.size)) (hoV : mokV sh.length restM = true) (hoL : mokL sh.length L = true)
    (kr : ∀ (v : Option Value) (sh2 : List mSh) (σ2 : mSg) (ad2 : Nat → Nat) (H1 : Heap) (locs1 : List Loc), Q2 (.inl v) sh2 σ2 → mAg sh.length ad2 ad → sh.length ≤ sh2.length → mRl s D cy A nL ad2 L sh2 σ2 H1 locs1 ls → W p l e R s m args below meth c H1 locs1 (cells + mc) (slots + ms) WQ (F0 m (pc + 3) ls ((v.toList ++ restM).map (mvm ad2))))
    (kx : ∀ (x : Nat) (E : String) (ce : Cell) (q : Addr) (sh2 : List mSh) (σ2 : mSg) (ad2 : Nat → Nat) (H1 : Heap) (locs1 : List Loc), mnx mxl x = some E → Q2 (.inr x) sh2 σ2 → mAg sh.length ad2 ad → sh.length ≤ sh2.length → mRl s D cy A nL ad2 L sh2 σ2 H1 locs1 ls → H1[q]? = some ce → ce.vm = .none → s.vm.findClass E = some ce.cls → vx_W p l e R s m args below meth c H1 locs1 (cells + mc) (slots + ms) WQ (F0 m pc ls (restM.map (mvm ad))) q) :
    W p l e R s m args below meth c H locs cells slots WQ (F0 m pc ls st0) := by
  obtain ⟨hx, hbc, hml, hown, hts, hK, hA⟩ := id hy
  obtain ⟨hP, hD, hS, hL⟩ := id h
  have hA1 := mA_world hD hS hA
  refine mW_run hr hS hA1 hA1 (fun st o t z => z.2) (fun E st t z => z.2) ?_ ?_
  · rintro v st₀ t H1 locs1 ⟨⟨v2, sh2, σ2, ad2, e1, hq, ⟨hag, hle⟩, hP1, hD1⟩, -⟩ ht hk hS1
    have e2 : v = v2.map (mvm ad2) := by cases e1; rfl
    rw [ht] at hP1
    have hrest : restM.map (mvm ad) = restM.map (mvm ad2) := (mvm_ok hag hoV).symm
    have := kr v2 sh2 σ2 ad2 H1 locs1 hq hag hle ⟨hP1, hD1.weaken (fun _ _ _ z => hA1 _ z), hS1, mLR_ok hag hoL hL⟩
    rw [List.map_append, ← hrest] at this
    rw [e2]
    cases v2 <;> exact this
  · rintro E ce q st₀ t H1 locs1 ⟨⟨x, sh2, σ2, ad2, e1, hq, ⟨hag, hle⟩, hP1, hD1⟩, -⟩ ht hk hS1 hce hcv hcl
    rw [ht] at hP1
    exact kx x E ce q sh2 σ2 ad2 H1 locs1 e1 hq hag hle ⟨hP1, hD1.weaken (fun _ _ _ z => hA1 _ z), hS1, mLR_ok hag hoL hL⟩ hce hcv hcl
/-- the callee saw a part of the world -/
theorem mW_local {rg : List (Nat × Nat)} {shl : List mSh} {K : mOut → mSg → Prop} (hy : mHy p s m args c own cc nL D cy A) (h : mRl s D cy A nL ad L sh σ H locs ls) (hck : mck rg sh shl = true) (hr : vx_Run p l e R s m args below meth c H locs cells slots mc ms (F0 m pc ls st0) (restM.map (mvm ad)) (mQc D cy (va_A (mwd cy (mal rg ad) (fun j => σ (mgl rg j)) 0 shl) H.size) shl.length (mal rg ad) (mloc shl K) a0) (mXc D cy (va_A (mwd cy (mal rg ad) (fun j => σ (mgl rg j)) 0 shl) H.size) shl.length (mal rg ad) (mloc shl K)) (va_A (mwd cy (mal rg ad) (fun j => σ (mgl rg j)) 0 shl) H.size))
    (kr : ∀ (v : Option Value) (σ2 : mSg) (H1 : Heap) (locs1 : List Loc), K (.inl v) σ2 → mRl s D cy A nL ad L sh (mback rg σ σ2) H1 locs1 ls → W p l e R s m args below meth c H1 locs1 (cells + mc) (slots + ms) WQ (F0 m (pc + 3) ls ((v.toList ++ restM).map (mvm ad))))
    (kx : ∀ (x : Nat) (E : String) (ce : Cell) (q : Addr) (σ2 : mSg) (H1 : Heap) (locs1 : List Loc), mnx mxl x = some E → K (.inr x) σ2 → mRl s D cy A nL ad L sh (mback rg σ σ2) H1 locs1 ls → H1[q]? = some ce → ce.vm = .none → s.vm.findClass E = some ce.cls → vx_W p l e R s m args below meth c H1 locs1 (cells + mc) (slots + ms) WQ (F0 m pc ls (restM.map (mvm ad))) q) :
    W p l e R s m args below meth c H locs cells slots WQ (F0 m pc ls st0) := by
  obtain ⟨hx, hbc, hml, hown, hts, hK, hA⟩ := id hy
  obtain ⟨hP, hD, hS, hL⟩ := id h
  obtain ⟨c1, c2, c3, c4⟩ := mck_spec hck
  have hDl : va_D A (mwd cy (mal rg ad) (fun j => σ (mgl rg j)) 0 shl) := mpart_D hck hD (fun _ _ z => z)
  have hA1 := mA_world hDl hS hA
  have key : ∀ (sh2 : List mSh) (σ2 : mSg) (ad2 : Nat → Nat) (H1 : Heap) (locs1 : List Loc), mpre shl sh2 = true → mAg shl.length ad2 (mal rg ad) → va_P D vwCl (mwd cy ad2 σ2 0 sh2) H1 → (∀ q : Nat, q < H.size → ¬ va_A (mwd cy (mal rg ad) (fun j => σ (mgl rg j)) 0 shl) H.size q → H1[q]? = H[q]?) → va_S A s.heap H1 locs1 → mRl s D cy A nL ad L sh (mback rg σ σ2) H1 locs1 ls := by
    intro sh2 σ2 ad2 H1 locs1 hpre hag hP1 hk hS1
    refine ⟨mpart_back hck hP hD hk (mpre_at shl sh2 hpre) hag (fun j sx hsx f => ?_) hP1, mD_eq hD rfl, hS1, hL⟩
    refine mce_ad (n := shl.length) ?_ (fun r hr => hag r (Or.inl hr))
    rw [← c1]
    exact mckA_ok shl 0 c4 j sx hsx
  refine mW_run hr hS hA1 hA1 (fun st o t z => z.2) (fun E st t z => z.2) ?_ ?_
  · rintro v st₀ t H1 locs1 ⟨⟨v2, sh2, σ2, ad2, e1, hq, ⟨hag, hle⟩, hP1, hD1⟩, -⟩ ht hk hS1
    have e2 : v = v2.map (mvm ad2) := by cases e1; rfl
    rw [ht] at hP1
    unfold mloc at hq
    split at hq
    · rename_i hpre
      have hR2 := key sh2 σ2 ad2 H1 locs1 hpre hag hP1 hk hS1
      rw [e2]
      rcases v2 with _ | v2
      · exact kr none σ2 H1 locs1 hq hR2
      · cases v2 with
        | int x => exact kr (some (.int x)) σ2 H1 locs1 hq hR2
        | long x => exact kr (some (.long x)) σ2 H1 locs1 hq hR2
        | _ => exact hq.elim
    · exact hq.elim
  · rintro E ce q st₀ t H1 locs1 ⟨⟨x, sh2, σ2, ad2, e1, hq, ⟨hag, hle⟩, hP1, hD1⟩, -⟩ ht hk hS1 hce hcv hcl
    rw [ht] at hP1
    unfold mloc at hq
    split at hq
    · rename_i hpre
      exact kx x E ce q σ2 H1 locs1 e1 hq (key sh2 σ2 ad2 H1 locs1 hpre hag hP1 hk hS1) hce hcv hcl
    · exact hq.elim
end MSL
end
section
/-! STRETCHES OF CODE are sound -/
/-- a method of the table: name and code; kind (0 by its object, 1 static, 2 a constructor); parameters; its object's class; places of its words -/
abbrev mTe : Type := mMn × Nat × Nat × Nat × Nat × Nat × Nat × Nat
def mteb (q : mTe) : Bool := mmb q.1 q.2.2.1 && (mwat q.2.2.2.2.1 (mcw q.1) && (mwat q.2.2.2.2.2.2.2 (.initialized q.1.1.cls) && (match q.2.1 with
  | 0 => decide (q.1.2.2.2.2 = []) && (mwat q.2.2.2.2.2.1 (.instanceMethod q.1.1) && (mwat q.2.2.2.2.2.2.1 (.selects q.1.1.cls q.1.1 q.1.1) && (match vwCl[q.2.2.2.1]? with | some (C, _, _) => decide (C = q.1.1.cls) | none => false)))
  | 1 => mwat q.2.2.2.2.2.1 (.static q.1.1)
  | 2 => decide (q.1.2.2.2.2 = []) && (decide (q.1.2.2.2.1 = none) && (decide (q.1.1.name = "<init>") && mwat q.2.2.2.2.2.1 (.instanceMethod q.1.1)))
  | _ => false)))
def mdec (cc : ByteArray) (pc : Nat) (i : Instr) (len : Nat) : Bool := match decode cc pc with
  | .ok r => decide (r = (i, len))
  | .error _ => false
theorem mdec_at {cc : ByteArray} {pc : Nat} {i : Instr} {len : Nat} (h : mdec cc pc i len = true) : decode cc pc = .ok (i, len) := by
  unfold mdec at h
  split at h
  · rename_i r hr; rw [hr, of_decide_eq_true h]
  · cases h
/-- the links of the law's class to the exceptions: entry, number, place -/
def mclt : List (Nat × Nat × Nat) := [(13, 0, 688), (53, 1, 1257), (24, 2, 997), (15, 3, 689), (26, 4, 998)]
def mclb (own : String) (ct y : Nat) : Bool := decide (ct ≠ 0) && mclt.any (fun q => decide (q.1 = ct) && (decide (q.2.1 = y) && (mwat q.2.2 (.classLink own ct (mxn y)) && decide ((mnx mxl y).isSome = true))))
/-- a handler: it lays the exception away, and goes on at a label -/
def mash (cc : ByteArray) (nL h lb : Nat) : Bool := match decode cc h with
  | .ok (.astore_n k, 1) => Nat.blt k.val nL && Nat.beq lb (h + 1)
  | .ok (.astore k, 2) => Nat.blt k nL && Nat.beq lb (h + 2)
  | _ => false
def mhk1 (own : String) (cc : ByteArray) (nL pc : Nat) : List (Nat × Nat × Nat × Nat) → List (Nat × Nat) → Bool
  | [], [] => true
  | (f, t, h, ct) :: hh, (y, lb) :: ps => (Nat.ble f pc && Nat.blt pc t) && (mclb own ct y && (mash cc nL h lb && mhk1 own cc nL pc hh ps))
  | _, _ => false
/-- a throw at pc: new, dup, a text, the constructor, athrow -/
def mthb (own : String) (cc : ByteArray) (pc ik w a : Nat) : List (Nat × Nat) → Bool
  | [(is, wide), (w2, txt)] => (decide (own = "DustYard") && (match mnx mxl a, mnx mxc a with
    | some X, some ic => mwat w (.classLink own ik X) && (mwat w2 (.initialized X) && (mtxb mtx own is txt && (mdec cc (pc + 3) .dup 1 && ((match wide with | 0 => mdec cc (pc + 4) (.ldc is) 2 | _ => mdec cc (pc + 4) (.ldc_w is) 3) && (mdec cc (pc + 4 + (match wide with | 0 => 2 | _ => 3)) (.invokespecial ic) 3 && mdec cc (pc + 4 + (match wide with | 0 => 2 | _ => 3) + 3) .athrow 1)))))
    | _, _ => false))
  | _ => false
section MCK
variable (tb : Nat → mTe) (NM : Nat) (own : String) (cc : ByteArray) (nL : Nat) (hh : List (Nat × Nat × Nat × Nat)) (init : Bool)
def mok1 (i : Instr) (len w a b d : Nat) (ps : List (Nat × Nat)) (pc : Nat) : Bool := match i with
  | .goto off => decide (len = 3) && decide ((pc : Int) + off = (a : Int))
  | .ifCond _ off => decide (len = 3) && decide ((pc : Int) + off = (a : Int))
  | .if_icmp _ off => decide (len = 3) && decide ((pc : Int) + off = (a : Int))
  | .tableswitch df lo hi offs => decide ((pc : Int) + df = (a : Int)) && (decide (hi = lo + ps.length - 1) && decide (offs.toList.map (fun z => (pc : Int) + z) = ps.map (fun q => (q.1 : Int))))
  | .istore k => decide (len = 2) && decide (k < nL)
  | .istore_n k => decide (len = 1) && decide (k.val < nL)
  | .astore k => decide (len = 2) && decide (k < nL)
  | .astore_n k => decide (len = 1) && decide (k.val < nL)
  | .lstore k => decide (len = 2) && decide (k + 1 < nL)
  | .lstore_n k => decide (len = 1) && decide (k.val + 1 < nL)
  | .iinc k z => decide (len = 3) && (decide (k < nL) && decide (Int32.ofInt z = mlit a d))
  | .idiv => decide (len = 1)
  | .irem => decide (len = 1)
  | .ldiv => decide (len = 1)
  | .getstatic k => decide (len = 3) && mwat w (.fieldLink own k "DustYard" "RAT_HAS" "[I")
  | .getfield k => decide (len = 3) && mffb own k w a b
  | .putfield k => decide (len = 3) && (mffb own k w a b && mfpb own init a b d)
  | .iaload => decide (len = 1)
  | .iastore => decide (len = 1)
  | .laload => decide (len = 1)
  | .lastore => decide (len = 1)
  | .aaload => decide (len = 1)
  | .aastore => decide (len = 1)
  | .arraylength => decide (len = 1)
  | .newarray _ => decide (len = 2)
  | .anewarray k => decide (len = 3) && mwat w (.classLink own k "DustYard$State")
  | .new k => decide (len = 3) && (match d with
    | 9 => mthb own cc pc k w a ps
    | 0 => (match ps with | [(w1, w2)] => mnwb own k w a w1 w2 | _ => false)
    | _ => false)
  | .invokevirtual k => decide (len = 3) && (match d with
    | 7 => mwat w (.methodLink own k yJ0_length_8abf5)
    | 8 => mwat w (.methodLink own k yJ0_charAt_5068e)
    | _ => (Nat.blt a NM && (decide ((tb a).2.1 = 0) && (decide (b = (tb a).2.2.1 + 1) && mwat w (.methodLink own k (tb a).1.1)))) && mhk1 own cc nL pc hh ps)
  | .invokestatic k => decide (len = 3) && (match d with
    | 2 => mwat w (.methodLink own k Lib.Math.max.name)
    | 3 => mwat w (.methodLink own k Lib.Math.min.name)
    | 4 => mwat w (.methodLink own k Lib.Math.abs.name)
    | 5 => mwat w (.methodLink own k arraycopyName)
    | _ => (Nat.blt a NM && (decide ((tb a).2.1 = 1) && (decide (b = (tb a).2.2.1) && mwat w (.methodLink own k (tb a).1.1)))) && mhk1 own cc nL pc hh ps)
  | .invokespecial k => decide (len = 3) && (match d with
    | 6 => mwat w (.methodLink own k objectInit)
    | _ => (Nat.blt a NM && (decide ((tb a).2.1 = 2) && (decide (b = (tb a).2.2.1 + 1) && (mwat w (.methodLink own k (tb a).1.1) || decide ((own, k, (tb a).1.1) ∈ mnst))))) && mhk1 own cc nL pc hh ps)
  | .ireturn => decide (len = 1)
  | .lreturn => decide (len = 1)
  | .return_ => decide (len = 1)
  | j => mfp mtx own j len w a d
def mit (i : Instr) (len w a b d : Nat) (ps : List (Nat × Nat)) (pc : Nat) : Bool := match i with
  | .nop => decide (pc = a)
  | j => mdec cc pc j len && mok1 tb NM own cc nL hh init j len w a b d ps pc
def mchk : List mIt → Nat → Bool
  | [], _ => true
  | (i, len, w, a, b, d, ps) :: is, pc => mit tb NM own cc nL hh init i len w a b d ps pc && mchk is (pc + len)
end MCK
theorem mcat_eq (ad : Nat → Nat) : ∀ l : List Value, ((l.map (mvm ad)).map fun v => v.category).sum = mcat l
  | [] => rfl
  | v :: l => by
    have ih := mcat_eq ad l
    cases v <;> simp only [List.map_cons, List.sum_cons, mvm, mcat, ih] <;> rfl
theorem mtk_dr : ∀ (n : Nat) (l : List Value), mtk n l ++ mdr n l = l
  | 0, _ => rfl
  | _ + 1, [] => rfl
  | n + 1, v :: l => by rw [mtk, mdr, List.cons_append, mtk_dr n l]
theorem mtk_len : ∀ (n : Nat) (l : List Value), mtk n l ≠ [] → True := fun _ _ _ => trivial
theorem msw_at {x : Int32} {Jf : Nat → Nat → Prop} : ∀ (ps : List (Nat × Nat)) (lo : Int), msw x Jf lo ps → ∀ (k : Nat) (t m : Nat), ps[k]? = some (t, m) → x.toInt = lo + k → Jf t m
  | [], _, _, k, t, m, h, _ => by simp at h
  | (t0, m0) :: ps, lo, hs, 0, t, m, h, e => by
    rw [List.getElem?_cons_zero] at h
    cases h
    exact hs.1 (by rw [e]; simp)
  | (t0, m0) :: ps, lo, hs, k + 1, t, m, h, e => by
    rw [List.getElem?_cons_succ] at h
    exact msw_at ps (lo + 1) hs.2 k t m h (by rw [e]; push_cast; omega)
theorem mRl_kl {s : State} {D : va_G} {cy : mCy} {A : Nat → Prop} {nL : Nat} {ad : Nat → Nat} {L : mLc} {sh : List mSh} {σ : mSg} {H : Heap} {locs : List Loc} {ls : Array Slot} (b : Nat) (h : mRl s D cy A nL ad L sh σ H locs ls) : mRl s D cy A nL ad (mkl b L) sh σ H locs ls := ⟨h.1, h.2.1, h.2.2.1, mLR_kl b h.2.2.2⟩
theorem mwat_in {k : Nat} {w : Cond} (h : mwat k w = true) : w ∈ gtbl := mgood k h
theorem kM_static_max : Cond.static Lib.Math.max.name ∈ gtbl := mgood 612 (by decide +kernel)
theorem kM_static_min : Cond.static Lib.Math.min.name ∈ gtbl := mgood 525 (by decide +kernel)
theorem kM_static_abs : Cond.static Lib.Math.abs.name ∈ gtbl := mgood 1068 (by decide +kernel)
theorem kM_code_max : Cond.code Lib.Math.max.name Lib.Math.max.code 2 (some .int) ∈ gtbl := mgood 613 (by decide +kernel)
theorem kM_code_min : Cond.code Lib.Math.min.name Lib.Math.min.code 2 (some .int) ∈ gtbl := mgood 526 (by decide +kernel)
theorem kM_code_abs : Cond.code Lib.Math.abs.name Lib.Math.abs.code 1 (some .int) ∈ gtbl := mgood 1069 (by decide +kernel)
theorem kM_init : Cond.initialized "java/lang/Math" ∈ gtbl := mgood 135 (by decide +kernel)
theorem kM_obj : Cond.instanceMethod objectInit ∈ gtbl := mgood 152 (by decide +kernel)
theorem kM_objc : Cond.code objectInit ⟨#[0xb1]⟩ 1 none ∈ gtbl := mgood 153 (by decide +kernel)
theorem kM_arrI : Cond.arrayClass .int ∈ gtbl := mgood 184 (by decide +kernel)
theorem kM_arrJ : Cond.arrayClass .long ∈ gtbl := mgood 2337 (by decide +kernel)
theorem gM_length : GoodIn gtbl (wJ0_length_8abf5) := mgG fun w hw => by
  rcases List.mem_cons.mp hw with rfl | z
  · exact mgood 721 (by decide +kernel)
  · exact z
theorem gM_charAt : GoodIn gtbl (wJ0_charAt_5068e) := mgG fun w hw => by
  rcases List.mem_cons.mp hw with rfl | z
  · exact mgood 731 (by decide +kernel)
  · exact z
theorem kM_li : Cond.instanceMethod yJ0_length_8abf5 ∈ gtbl := mgood 719 (by decide +kernel)
theorem kM_ls : Cond.selects RJ0 yJ0_length_8abf5 yJ0_length_8abf5 ∈ gtbl := mgood 720 (by decide +kernel)
theorem kM_ci : Cond.instanceMethod yJ0_charAt_5068e ∈ gtbl := mgood 729 (by decide +kernel)
theorem kM_cs : Cond.selects RJ0 yJ0_charAt_5068e yJ0_charAt_5068e ∈ gtbl := mgood 730 (by decide +kernel)
theorem kM_si : Cond.initialized RJ0 ∈ gtbl := mgood 131 (by decide +kernel)
theorem mstl_lt : mstl.all (fun l => l.all (fun z => decide (z < 256)) && decide (l.length < 100)) = true := by decide +kernel
theorem mstl_len : mstl.length = 89 := by decide +kernel
theorem mstr_ok {i : Nat} (h : ¬ mstr i = []) : i < 89 ∧ (mstr i).length < 100 ∧ ∀ k, (mstr i).getD k 0 < 256 := by
  unfold mstr at h ⊢
  rw [mnx_eq] at h ⊢
  cases hi : mstl[i]? with
  | none => rw [hi] at h; exact absurd rfl h
  | some l =>
    have h1 := List.all_eq_true.mp mstl_lt l (List.mem_of_getElem? hi)
    simp only [Bool.and_eq_true, decide_eq_true_eq, List.all_eq_true] at h1
    refine ⟨by rw [← mstl_len]; exact (List.getElem?_eq_some_iff.mp hi).1, h1.2, fun k => ?_⟩
    simp only [Option.getD_some]
    rw [List.getD_eq_getElem?_getD]
    cases hk : l[k]? with
    | none => simp
    | some z => exact h1.1 z (List.mem_of_getElem? hk)
end
section
/-! STRETCHES OF CODE are sound: the theorem -/
theorem mkl0 : ∀ (L : mLc) (i : Nat) (v : Value), (mkl 0 L)[i]? = some (some v) → False
  | [], i, v, h => by simp [mkl] at h
  | x :: L, 0, v, h => by simp [mkl] at h
  | x :: L, i + 1, v, h => by
    simp only [mkl, List.getElem?_cons_succ] at h
    exact mkl0 L i v h
section MEC
variable {p : Program} {l : Launch} {e : Env} {R : Room} {s : State} {m : MethodId} {args : Array Value} {below : List Frame} {meth : Method} {c : Code} {H : Heap} {locs : List Loc} {cells slots : Nat} {WQ : State → Prop}
variable {own : String} {cc : ByteArray} {nL : Nat} {pc : Nat} {ad : Nat → Nat} {L : mLc} {ls : Array Slot} {rest : List Value} {S0 : Nat} {adc adV : Nat → Nat}
def mpas (own : String) (args : Array Value) (s : State) (E : String) (pc : Nat) (z : ExceptionTableEntry) : Prop := covers z pc = false ∨ (z.catchType ≠ 0 ∧ ∃ nm : String, (Cond.classLink own z.catchType nm).before args s = true ∧ va_Nc E nm s)
theorem mexc_go (hx : p.tables.exec = Jvm.exec) (hbc : c.code = cc) (hown : s.vm.findClass own = some m.cls) (hts : ∀ w ∈ gtbl, w.before args s = true) (hE : mEX adc adV S0 s s.heap) (hL : mLR ad ls nL L) {x : Nat} {E : String} {ce : Cell} {q : Addr} (hxE : mnx mxl x = some E) (hce : H[q]? = some ce) (hcv : ce.vm = .none) (hcl : s.vm.findClass E = some ce.cls)
    : ∀ (hh : List (Nat × Nat × Nat × Nat)) (ps : List (Nat × Nat)) (pre : List ExceptionTableEntry), c.exceptionTable.toList = pre ++ tableOf hh → mhk1 own cc nL pc hh ps = true → (∀ z ∈ pre, mpas own args s E pc z) →
      (∀ t, mhd ps x = some t → ∀ ls' : Array Slot, mLR ad ls' nL (mkl 0 L) → W p l e R s m args below meth c H locs cells slots WQ (F0 m t ls' [])) →
      (mhd ps x = none → (∀ z ∈ c.exceptionTable.toList, mpas own args s E pc z) → vx_W p l e R s m args below meth c H locs cells slots WQ (F0 m pc ls rest) q) →
      vx_W p l e R s m args below meth c H locs cells slots WQ (F0 m pc ls rest) q
  | [], [], pre, hs, _, hp, _, ko => ko rfl (fun z hz => hp z (by rw [hs] at hz; simpa [tableOf] using hz))
  | [], _ :: _, _, _, hm, _, _, _ => by simp [mhk1] at hm
  | _ :: _, [], _, _, hm, _, _, _ => by simp [mhk1] at hm
  | (f, t, h, ct) :: hh, (y, lb) :: ps, pre, hs, hm, hp, kc, ko => by
    simp only [mhk1, Bool.and_eq_true] at hm
    obtain ⟨⟨hf, ht⟩, hcb, hash, hm⟩ := hm
    unfold mclb at hcb
    simp only [Bool.and_eq_true, decide_eq_true_eq, List.any_eq_true] at hcb
    obtain ⟨hct, ⟨q1, q2, q3⟩, -, he1, he2, hw, hsome⟩ := hcb
    dsimp only at he1 he2 hw
    subst he1 he2
    have hcov : covers ⟨f, t, h, q1⟩ pc = true := by
      simp only [Bool.and_eq_true, decide_eq_true_eq]
      exact ⟨Nat.le_of_ble_eq_true hf, Nat.le_of_ble_eq_true ht⟩
    cases hY : mnx mxl q2 with
    | none => rw [hY] at hsome; cases hsome
    | some Y =>
      have hYn : mxn q2 = Y := by unfold mxn; rw [hY]; rfl
      rw [hYn] at hw
      have hYm : Y ∈ mxl := by rw [mnx_eq] at hY; exact List.mem_of_getElem? hY
      have hEm : E ∈ mxl := by rw [mnx_eq] at hxE; exact List.mem_of_getElem? hxE
      by_cases hxy : q2 = x
      · subst hxy
        rw [hY] at hxE
        cases hxE
        have hmh : mhd ((q2, lb) :: ps) q2 = some lb := by simp only [mhd]; rw [show Nat.beq q2 q2 = true from Nat.beq_refl q2]
        refine vx_catch hown pre ⟨f, t, h, q1⟩ (tableOf hh) (by rw [hs]; rfl) hp hcov hct (mword hts hw) (va_Nw.use rfl (hE.2.2.2.2.2.1 _ hEm)) hce hcv hcl ?_
        unfold mash at hash
        split at hash
        · rename_i k hdk
          simp only [Bool.and_eq_true] at hash
          have e := Nat.eq_of_beq_eq_true hash.2
          subst e
          exact lv_astore_n hx hbc hdk rfl (mLR_has hL) (Nat.le_of_ble_eq_true hash.1) rfl (fun ls' hl' => kc _ hmh ls' ⟨hl'.1, hl'.2.1, fun i v hv => (mkl0 L i v hv).elim⟩)
        · rename_i k hdk
          simp only [Bool.and_eq_true] at hash
          have e := Nat.eq_of_beq_eq_true hash.2
          subst e
          exact lv_astore hx hbc hdk (mLR_has hL) (Nat.le_of_ble_eq_true hash.1) rfl (fun ls' hl' => kc _ hmh ls' ⟨hl'.1, hl'.2.1, fun i v hv => (mkl0 L i v hv).elim⟩)
        · cases hash
      · have hmh : mhd ((q2, lb) :: ps) x = mhd ps x := by
          simp only [mhd]
          rw [show Nat.beq q2 x = false from by
            cases hz : Nat.beq q2 x with
            | false => rfl
            | true => exact absurd (Nat.eq_of_beq_eq_true hz) hxy]
        rw [hmh] at kc ko
        have hEY : E ≠ Y := fun z => hxy (by
          subst z
          have nd : ∀ i, i < 5 → ∀ j, j < 5 → mxl[i]? = mxl[j]? → i = j := by decide +kernel
          rw [mnx_eq] at hY hxE
          have h1 := (List.getElem?_eq_some_iff.mp hY).1
          have h2 := (List.getElem?_eq_some_iff.mp hxE).1
          exact nd q2 h1 x h2 (by rw [hY, hxE]))
        refine mexc_go hx hbc hown hts hE hL hxE hce hcv hcl hh ps (pre ++ [⟨f, t, h, q1⟩]) (by rw [hs, List.append_assoc]; rfl) hm (fun z hz => ?_) kc ko
        rcases List.mem_append.mp hz with hz | hz
        · exact hp z hz
        · rw [List.mem_singleton.mp hz]
          exact Or.inr ⟨hct, Y, mword hts hw, hE.2.2.2.2.2.2.2.2.2 E hEm Y hYm hEY⟩
end MEC
/-- at a point of the code, from any heap that holds the world -/
def mWt (p : Program) (l : Launch) (e : Env) (R : Room) (s : State) (m : MethodId) (args : Array Value) (below : List Frame) (meth : Method) (c : Code) (D : va_G) (cy : mCy) (A : Nat → Prop) (nL : Nat) (WQ : State → Prop) (n0 : Nat) (ad0 : Nat → Nat) (pc : Nat) (L : mLc) (st : List Value) (sh : List mSh) (σ : mSg) (cl sl : Nat) : Prop :=
  ∀ (ad : Nat → Nat) (H : Heap) (locs : List Loc) (ls : Array Slot), mAg n0 ad ad0 → n0 ≤ sh.length → mRl s D cy A nL ad L sh σ H locs ls → W p l e R s m args below meth c H locs cl sl WQ (F0 m pc ls (st.map (mvm ad)))
theorem mAg.up {n0 n : Nat} {ad ad2 ad0 : Nat → Nat} (h : mAg n0 ad ad0) (h2 : mAg n ad2 ad) (hn : n0 ≤ n) : mAg n0 ad2 ad0 := fun i hi => by
  rw [h2 i (hi.imp (fun z => Nat.lt_of_lt_of_le z hn) id), h i hi]
theorem mteb_at {q : mTe} (h : mteb q = true) : mmb q.1 q.2.2.1 = true ∧ mcw q.1 ∈ gtbl ∧ Cond.initialized q.1.1.cls ∈ gtbl := by
  simp only [mteb, Bool.and_eq_true] at h
  exact ⟨h.1, mwat_in h.2.1, mwat_in h.2.2.1⟩
theorem mteb_0 {q : mTe} (h : mteb q = true) (hk : q.2.1 = 0) : q.1.2.2.2.2 = [] ∧ Cond.instanceMethod q.1.1 ∈ gtbl ∧ Cond.selects q.1.1.cls q.1.1 q.1.1 ∈ gtbl ∧ ∃ (T : u_T) (N : Nat), vwCl[q.2.2.2.1]? = some (q.1.1.cls, T, N) := by
  simp only [mteb, Bool.and_eq_true, hk, decide_eq_true_eq] at h
  obtain ⟨-, -, -, h1, h2, h3, h4⟩ := h
  refine ⟨h1, mwat_in h2, mwat_in h3, ?_⟩
  split at h4
  · rename_i C T N hC
    rw [of_decide_eq_true h4] at hC
    exact ⟨T, N, hC⟩
  · cases h4
theorem mteb_1 {q : mTe} (h : mteb q = true) (hk : q.2.1 = 1) : Cond.static q.1.1 ∈ gtbl := by
  simp only [mteb, Bool.and_eq_true, hk] at h
  exact mwat_in h.2.2.2
theorem mteb_2 {q : mTe} (h : mteb q = true) (hk : q.2.1 = 2) : q.1.2.2.2.2 = [] ∧ q.1.2.2.2.1 = none ∧ q.1.1.name = "<init>" ∧ Cond.instanceMethod q.1.1 ∈ gtbl := by
  simp only [mteb, Bool.and_eq_true, hk, decide_eq_true_eq] at h
  exact ⟨h.2.2.2.1, h.2.2.2.2.1, h.2.2.2.2.2.1, mwat_in h.2.2.2.2.2.2⟩
end
section
/-! THE THEOREM: what bx asks is enough for the machine -/
section MTM
variable {p : Program} {l : Launch} {e : Env} {R : Room} {s : State} {m : MethodId} {args : Array Value} {below : List Frame} {meth : Method} {c : Code} {WQ : State → Prop}
variable {own : String} {cc : ByteArray} {nL : Nat} {D : va_G} {cy : mCy} {A : Nat → Prop} {S0 n0 d0 : Nat} {ad0 adc adV : Nat → Nat}
variable {tb : Nat → mTe} {NM : Nat} {hh : List (Nat × Nat × Nat × Nat)} {init : Bool} {C : mCt} {mi : Nat → Nat × Nat × Nat} {msp : Nat → List mSh} {scr : Option (Nat × (Nat → Int32))} {mc ms : Nat} {rb : Bool} {J : mJt} {Q : mPst}
/-- a call by its object, a static call, a constructor: to the next instruction -/
theorem mW_call (hy : mHy p s m args c own cc nL D cy A) (hE : mEX adc adV S0 s s.heap) (hAS : ∀ q, A q → S0 ≤ q) (hS0 : S0 ≤ s.heap.size) (had : ∀ i, 1000 ≤ i → ad0 i = adc i) (hRf : 21 + d0 ≤ R.frames) (hRl : 460 + 60 * d0 ≤ R.locals) (hRc : R.cells = mc) (hRs : R.slots = ms)
    (htb : ∀ j, j < NM → mteb (tb j) = true) (hC : ∀ (j : Nat) (as : List Value) (sh : List mSh) (σ : mSg) (Q2 : mPst), j < NM → C j as sh σ Q2 → mMet l D cy S0 adc adV (tb j).1 d0 (mi j).1 (mi j).2.1 as sh σ Q2) (hcls : ∀ j, j < NM → (tb j).2.1 = 0 → (mi j).2.2 = (tb j).2.2.2.1) (htab : c.exceptionTable.toList = tableOf hh)
    (hJ : ∀ (lb : Nat) (L : mLc) (st : List Value) (sh : List mSh) (σ : mSg) (cl sl : Nat), J lb L st sh σ cl sl → mWt p l e R s m args below meth c D cy A nL WQ n0 ad0 lb L st sh σ cl sl)
    (hxo : ∀ (x : Nat) (E : String) (ce : Cell) (q : Addr) (L : mLc) (sh : List mSh) (σ : mSg) (cl sl : Nat) (ad : Nat → Nat) (H : Heap) (locs : List Loc) (ls : Array Slot) (pc : Nat) (rest : List Value), Q (.inr x) sh σ → mnx mxl x = some E → mAg n0 ad ad0 → n0 ≤ sh.length → mRl s D cy A nL ad L sh σ H locs ls → cl ≤ mc → sl ≤ ms → H[q]? = some ce → ce.vm = .none → s.vm.findClass E = some ce.cls → (∀ z ∈ c.exceptionTable.toList, mpas own args s E pc z) → vx_W p l e R s m args below meth c H locs cl sl WQ (F0 m pc ls rest) q)
    {a b k : Nat} {ig : Instr} {ps : List (Nat × Nat)} {pc : Nat} {L : mLc} {st : List Value} {sh : List mSh} {σ : mSg} {cl sl : Nat} {K : List Value → List mSh → mSg → Prop} (hd : decode cc pc = .ok (ig, 3)) (hkind : (ig = .invokevirtual k ∧ (tb a).2.1 = 0 ∧ b = (tb a).2.2.1 + 1 ∧ Cond.methodLink own k (tb a).1.1 ∈ gtbl ∧ mrc sh (mi a).2.2 (mtk b st).reverse = true) ∨ (ig = .invokestatic k ∧ (tb a).2.1 = 1 ∧ b = (tb a).2.2.1 ∧ Cond.methodLink own k (tb a).1.1 ∈ gtbl) ∨ (ig = .invokespecial k ∧ (tb a).2.1 = 2 ∧ b = (tb a).2.2.1 + 1 ∧ (Cond.methodLink own k (tb a).1.1 ∈ gtbl ∨ (own, k, (tb a).1.1) ∈ mnst) ∧ mrc sh (mi a).2.2 (mtk b st).reverse = true))
    (ha : a < NM) (hhk : mhk1 own cc nL pc hh ps = true) (hlen : b ≤ st.length) (hcat : mcat (mdr b st) ≤ 8) (hcl : cl + (mi a).1 ≤ mc) (hsl : sl + (mi a).2.1 ≤ ms)
    (hK : ∀ (v : List Value) (sh2 : List mSh) (σ2 : mSg), K v sh2 σ2 → mWt p l e R s m args below meth c D cy A nL WQ n0 ad0 (pc + 3) L (v ++ mdr b st) sh2 σ2 (cl + (mi a).1) (sl + (mi a).2.1))
    (hcall : (mokV sh.length (mdr b st) = true ∧ mokL sh.length L = true ∧ C a (mtk b st).reverse sh σ (mend J Q ps L (cl + (mi a).1) (sl + (mi a).2.1) K)) ∨
      (∃ as2, mck (mrg sh (mtk b st).reverse) sh (msp a) = true ∧ mrv (mrg sh (mtk b st).reverse) (mtk b st).reverse = some as2 ∧ C a as2 (msp a) (fun j => σ (mgl (mrg sh (mtk b st).reverse) j)) (mloc (msp a) (fun o σ2 => mend J Q ps L (cl + (mi a).1) (sl + (mi a).2.1) K o sh (mback (mrg sh (mtk b st).reverse) σ σ2))))) :
    mWt p l e R s m args below meth c D cy A nL WQ n0 ad0 pc L st sh σ cl sl := by
  intro ad H locs ls hag hn0 hR
  obtain ⟨hx, hbc, hml, hown, hts, hKt, hA⟩ := id hy
  obtain ⟨hP, hD, hS, hL⟩ := id hR
  obtain ⟨hmm, hcw, hini⟩ := mteb_at (htb a ha)
  have hadc : ∀ i, 1000 ≤ i → ad i = adc i := fun i hi => by rw [hag i (Or.inr hi), had i hi]
  have hst : st.map (mvm ad) = ((mtk b st).map (mvm ad)) ++ ((mdr b st).map (mvm ad)) := by rw [← List.map_append, mtk_dr]
  have htl : (mtk b st).length = b := by
    have h1 : ∀ (n : Nat) (l : List Value), n ≤ l.length → (mtk n l).length = n := by
      intro n
      induction n with
      | zero => intro l _; rfl
      | succ n ihn =>
        intro l hl
        cases l with
        | nil => simp at hl
        | cons v l => rw [mtk, List.length_cons, ihn l (by simpa using hl)]
    exact h1 b st hlen
  have hcat2 : (((mdr b st).map (mvm ad)).map fun v => v.category).sum ≤ 8 := by rw [mcat_eq]; exact hcat
  have hfit : cl + (mi a).1 ≤ R.cells ∧ sl + (mi a).2.1 ≤ R.slots := by rw [hRc, hRs]; exact ⟨hcl, hsl⟩
  have hDS : ∀ {ad2 : Nat → Nat} {σ2 : mSg} {sh2 : List mSh}, va_D A (mwd cy ad2 σ2 0 sh2) → va_D (fun q => S0 ≤ q) (mwd cy ad2 σ2 0 sh2) := fun hd2 => hd2.weaken (fun _ _ _ z => hAS _ z)
  -- the run of the callee, from its contract in a world of its own
  have run : ∀ (as2 : List Value) (ad2 : Nat → Nat) (sh2 : List mSh) (σ2 : mSg) (Q2 : mPst), C a as2 sh2 σ2 Q2 → (∀ i, 1000 ≤ i → ad2 i = adc i) → va_P D vwCl (mwd cy ad2 σ2 0 sh2) H → va_D A (mwd cy ad2 σ2 0 sh2) → as2.map (mvm ad2) = (mtk b st).reverse.map (mvm ad) →
      ∃ a0 : Array Value, vx_Run p l e R s m args below meth c H locs cl sl (mi a).1 (mi a).2.1 (F0 m pc ls (st.map (mvm ad))) ((mdr b st).map (mvm ad)) (mQc D cy (va_A (mwd cy ad2 σ2 0 sh2) H.size) sh2.length ad2 Q2 a0) (mXc D cy (va_A (mwd cy ad2 σ2 0 sh2) H.size) sh2.length ad2 Q2) (va_A (mwd cy ad2 σ2 0 sh2) H.size) := by
    intro as2 ad2 sh2 σ2 Q2 hCa had2 hP2 hD2 hvs
    have hM := hC a as2 sh2 σ2 Q2 ha hCa
    rw [hst]
    rcases hkind with ⟨rfl, hk0, hb0, hlk, hrc⟩ | ⟨rfl, hk1, hb1, hlk⟩ | ⟨rfl, hk2, hb2, hlk, hrc⟩
    · obtain ⟨t1, t2, t3, T, N, t4⟩ := mteb_0 (htb a ha) hk0
      cases hrev : (mtk b st).reverse with
      | nil => rw [hrev] at hrc; simp [mrc] at hrc
      | cons v0 As =>
        rw [hrev] at hrc hvs
        cases v0 with
        | ref r =>
          have hAs : As.length = (tb a).2.2.1 := by
            have h9 := congrArg List.length hrev
            rw [List.length_reverse, htl, List.length_cons] at h9
            omega
          have e1 : (mtk b st).map (mvm ad) = (As.map (mvm ad)).reverse ++ [Value.ref (ad r)] := by
            have h9 : mtk b st = (Value.ref r :: As).reverse := by rw [← hrev, List.reverse_reverse]
            rw [h9, List.reverse_cons, List.map_append, List.map_reverse]; rfl
          have hrecv : ∃ cell : Cell, H[ad r]? = some cell ∧ cell.vm.isStatics = false ∧ s.vm.findClass (tb a).1.1.cls = some cell.cls := by
            simp only [mrc] at hrc
            split at hrc
            · rename_i c9 fs9 hsh
              have e9 := Nat.eq_of_beq_eq_true hrc
              rw [hcls a ha hk0] at e9
              subst e9
              rw [mnx_eq] at hsh
              exact va_recv hKt hP t4 (mwd_at hsh)
            · cases hrc
          rw [e1, List.append_assoc]
          exact ⟨_, mrunV hy hR hE hAS hS0 hM had2 t1 hmm hlk t2 t3 hini hcw hrecv hP2 (hDS hD2) hvs (by rw [List.length_map]; exact hAs) hcat2 hd hRf hRl hfit⟩
        | _ => simp [mrc] at hrc
    · have t1 := mteb_1 (htb a ha) hk1
      have e1 : (mtk b st).map (mvm ad) = (((mtk b st).reverse).map (mvm ad)).reverse := by rw [List.map_reverse, List.reverse_reverse]
      rw [e1]
      exact ⟨_, mrunS hy hR hE hAS hS0 hM had2 hmm hlk t1 hini hcw hP2 (hDS hD2) hvs (by rw [List.length_map, List.length_reverse, htl]; exact hb1) hcat2 hd hRf hRl hfit⟩
    · obtain ⟨t1, t2, t3, t4⟩ := mteb_2 (htb a ha) hk2
      cases hrev : (mtk b st).reverse with
      | nil =>
        have h9 := congrArg List.length hrev
        rw [List.length_reverse, htl, hb2] at h9
        simp at h9
      | cons v0 As =>
        rw [hrev] at hrc hvs
        cases v0 with
        | ref r =>
          have hAs : As.length = (tb a).2.2.1 := by
            have h9 := congrArg List.length hrev
            rw [List.length_reverse, htl, List.length_cons] at h9
            omega
          have e1 : (mtk b st).map (mvm ad) = (As.map (mvm ad)).reverse ++ [Value.ref (ad r)] := by
            have h9 : mtk b st = (Value.ref r :: As).reverse := by rw [← hrev, List.reverse_reverse]
            rw [h9, List.reverse_cons, List.map_append, List.map_reverse]; rfl
          rw [e1, List.append_assoc]
          exact ⟨_, mrunI hy hR hE hAS hS0 hM had2 t1 t2 t3 hmm hlk t4 hini hcw hP2 (hDS hD2) hvs (by rw [List.length_map]; exact hAs) hcat2 hd hRf hRl hfit⟩
        | _ => simp [mrc] at hrc
  have hend : ∀ (x : Nat) (E : String) (ce : Cell) (q : Addr) (sh2 : List mSh) (σ2 : mSg) (ad2 : Nat → Nat) (H1 : Heap) (locs1 : List Loc) (rest : List Value), mnx mxl x = some E → mend J Q ps L (cl + (mi a).1) (sl + (mi a).2.1) K (.inr x) sh2 σ2 → mAg n0 ad2 ad0 → n0 ≤ sh2.length → mRl s D cy A nL ad2 L sh2 σ2 H1 locs1 ls → H1[q]? = some ce → ce.vm = .none → s.vm.findClass E = some ce.cls → vx_W p l e R s m args below meth c H1 locs1 (cl + (mi a).1) (sl + (mi a).2.1) WQ (F0 m pc ls rest) q := by
    intro x E ce q sh2 σ2 ad2 H1 locs1 rest hxE hm hag2 hn2 hR2 hce hcv hcl2
    refine mexc_go hx hbc hown hts hE hR2.2.2.2 hxE hce hcv hcl2 hh ps [] (by rw [htab]; rfl) hhk (fun z hz => by cases hz) ?_ ?_
    · intro t ht ls' hL'
      simp only [mend, ht] at hm
      exact hJ t _ _ sh2 σ2 _ _ hm ad2 H1 locs1 ls' hag2 hn2 ⟨hR2.1, hR2.2.1, hR2.2.2.1, hL'⟩
    · intro ht hz
      simp only [mend, ht] at hm
      exact hxo x E ce q L sh2 σ2 _ _ ad2 H1 locs1 ls pc rest hm hxE hag2 hn2 hR2 hcl hsl hce hcv hcl2 hz
  have hret : ∀ (v : Option Value) (sh2 : List mSh) (σ2 : mSg), mend J Q ps L (cl + (mi a).1) (sl + (mi a).2.1) K (.inl v) sh2 σ2 → K v.toList sh2 σ2 := by
    intro v sh2 σ2 hm
    cases v <;> exact hm
  rcases hcall with ⟨hoV, hoL, hCa⟩ | ⟨as2, hck, hrv, hCa⟩
  · obtain ⟨a0, hr⟩ := run _ ad sh σ _ hCa hadc hP hD rfl
    refine mW_same hy hR hr hoV hoL ?_ ?_
    · intro v sh2 σ2 ad2 H1 locs1 hq hag2 hle hR2
      exact hK v.toList sh2 σ2 (hret v sh2 σ2 hq) ad2 H1 locs1 ls (hag.up hag2 hn0) (Nat.le_trans hn0 hle) hR2
    · intro x E ce q sh2 σ2 ad2 H1 locs1 hxE hq hag2 hle hR2 hce hcv hcl2
      exact hend x E ce q sh2 σ2 ad2 H1 locs1 _ hxE hq (hag.up hag2 hn0) (Nat.le_trans hn0 hle) hR2 hce hcv hcl2
  · have hPl : va_P D vwCl (mwd cy (mal (mrg sh (mtk b st).reverse) ad) (fun j => σ (mgl (mrg sh (mtk b st).reverse) j)) 0 (msp a)) H := mpart_P hck hP
    have hDl : va_D A (mwd cy (mal (mrg sh (mtk b st).reverse) ad) (fun j => σ (mgl (mrg sh (mtk b st).reverse) j)) 0 (msp a)) := mpart_D hck hD (fun _ _ z => z)
    obtain ⟨a0, hr⟩ := run as2 (mal (mrg sh (mtk b st).reverse) ad) (msp a) (fun j => σ (mgl (mrg sh (mtk b st).reverse) j)) _ hCa (fun i hi => by rw [← hadc i hi]; unfold mal; rw [if_pos hi]) hPl hDl (mrv_eq (mck_spec hck).2.1 _ _ hrv)
    refine mW_local hy hR hck hr ?_ ?_
    · intro v σ2 H1 locs1 hq hR2
      exact hK v.toList sh _ (hret v sh _ hq) ad H1 locs1 ls hag hn0 hR2
    · intro x E ce q σ2 H1 locs1 hxE hq hR2 hce hcv hcl2
      exact hend x E ce q sh _ ad H1 locs1 _ hxE hq hag hn0 hR2 hce hcv hcl2
end MTM
end
section
/-! THE THEOREM: a stretch of code is sound -/
theorem mit_gen {A B : Bool} (h : (A && B) = true) : A = true ∧ B = true := by rw [Bool.and_eq_true] at h; exact h
theorem mmin_eq (x y : Int32) : (if x < y then x else y) = (if y < x then y else x) := by
  rcases Int32.lt_or_le x y with h | h
  · rw [if_pos h, if_neg (fun z => Int32.lt_irrefl (Int32.lt_trans h z))]
  · by_cases h2 : y < x
    · rw [if_pos h2, if_neg (fun z => Int32.lt_irrefl (Int32.lt_trans h2 z))]
    · rw [if_neg h2]
      have e : x = y := by
        have h3 : x ≤ y := by
          rcases Int32.lt_or_le y x with z | z
          · exact absurd z h2
          · exact z
        exact Int32.le_antisymm h3 h
      rw [e]; split <;> rfl
section MBX
variable {p : Program} {l : Launch} {e : Env} {R : Room} {s : State} {m : MethodId} {args : Array Value} {below : List Frame} {meth : Method} {c : Code} {WQ : State → Prop}
variable {own : String} {cc : ByteArray} {nL : Nat} {D : va_G} {cy : mCy} {A : Nat → Prop} {S0 n0 d0 : Nat} {ad0 adc adV : Nat → Nat}
variable {tb : Nat → mTe} {NM : Nat} {hh : List (Nat × Nat × Nat × Nat)} {init : Bool} {C : mCt} {mi : Nat → Nat × Nat × Nat} {msp : Nat → List mSh} {scr : Option (Nat × (Nat → Int32))} {mc ms : Nat} {rb : Bool} {J : mJt} {Q : mPst}
theorem mW_gen {i : Instr} {len w a d pc : Nat} {L : mLc} {st : List Value} {sh : List mSh} {σ : mSg} {cl sl : Nat} {B : List Value → Prop} (hy : mHy p s m args c own cc nL D cy A) (hE : mEX adc adV S0 s s.heap) (had : ∀ i, 1000 ≤ i → ad0 i = adc i) (hd : mdec cc pc i len = true) (hf : mfp mtx own i len w a d = true)
    (hp : match mpu i a d L st with | some st2 => B st2 | none => False) (hB : ∀ st2, B st2 → mWt p l e R s m args below meth c D cy A nL WQ n0 ad0 (pc + len) L st2 sh σ cl sl) : mWt p l e R s m args below meth c D cy A nL WQ n0 ad0 pc L st sh σ cl sl := by
  intro ad H locs ls hag hn0 hR
  obtain ⟨hx, hbc, hml, hown, hts, hKt, hA⟩ := id hy
  split at hp
  · rename_i st2 h2
    exact mW_pu hx hbc hown hts (fun q hq => by rw [hag _ (Or.inr (Nat.le_add_right _ _)), had _ (Nat.le_add_right _ _)]; exact hE.1 q hq) (mdec_at hd) hf h2 hR.2.2.2 (hB st2 hp ad H locs ls hag hn0 hR)
  · exact hp.elim
theorem mW_slen {k pc i w : Nat} {ad : Nat → Nat} {L : mLc} {sh : List mSh} {σ : mSg} {H : Heap} {locs : List Loc} {ls : Array Slot} {cl sl : Nat} {rest : List Value} (hy : mHy p s m args c own cc nL D cy A) (h : mRl s D cy A nL ad L sh σ H locs ls) (hE : mEX adc adV S0 s s.heap) (hAS : ∀ q, A q → S0 ≤ q) (hRf : 21 + d0 ≤ R.frames) (hRl : 460 + 60 * d0 ≤ R.locals) (hc : cl ≤ R.cells) (hs : sl ≤ R.slots) (hi : ¬ mstr i = []) (hw : mwat w (.methodLink own k yJ0_length_8abf5) = true) (hd : decode cc pc = .ok (.invokevirtual k, 3)) (hcat : (rest.map fun v => v.category).sum ≤ 8)
    (kk : W p l e R s m args below meth c H locs cl sl WQ (F0 m (pc + 3) ls (.int (nI (mstr i).length) :: rest))) : W p l e R s m args below meth c H locs cl sl WQ (F0 m pc ls (.ref (adc (1000 + i)) :: rest)) := by
  obtain ⟨hx, hbc, hml, hown, hts, hKt, hA⟩ := id hy
  obtain ⟨hi1, hi2, hi3⟩ := mstr_ok hi
  have hE2 : mEX adc adV S0 s H := hE.kept fun a ha hna => h.2.2.1.2.1 a ha (fun z => hna (hAS a z))
  have hv := hE2.2.1 i hi1 hi
  have hg := hE2.2.2.1
  have hG : GoodIn gtbl (wsV own k RJ0 yJ0_length_8abf5 wJ0_length_8abf5) := mgG fun w9 hw2 => by
    unfold wsV at hw2
    rcases List.mem_append.mp hw2 with z | z
    · simp only [List.mem_cons, List.not_mem_nil, or_false] at z
      rcases z with rfl | rfl | rfl | rfl
      · exact mwat_in hw
      · exact kM_li
      · exact kM_ls
      · exact kM_si
    · exact (gM_length w9 z).1
  refine W.callR (r := nI (mstr i).length) (W.runV (As := []) (rest := rest) ⟨hx, hbc, hml, hown, hts⟩ (cJ_length l (fun q => S0 ≤ q) (adc (1000 + i)) (adV i) (mstr i) (by omega)) (cwV 0 hts hG rfl rfl rfl (by decide +kernel) ⟨by simp only [mrm]; omega, by simp only [mrm]; omega⟩) ⟨mPs_blind, ?_, fun U hU hW => ⟨rfl, by rw [hU]; exact hv.moved hW.alike, by rw [hU]; exact hg.moved hW.alike⟩⟩ rfl rfl h.2.2.2.1 rfl (lv_room hcat) hd ⟨by omega, by omega⟩) ?_
  · obtain ⟨cell, h1, h2, h3, -⟩ := hv.1
    exact ⟨cell, h1, h2, h3⟩
  exact W.eq rfl kk
theorem mW_char0 {k pc i w : Nat} {ad : Nat → Nat} {L : mLc} {sh : List mSh} {σ : mSg} {H : Heap} {locs : List Loc} {ls : Array Slot} {cl sl : Nat} {rest : List Value} (hy : mHy p s m args c own cc nL D cy A) (h : mRl s D cy A nL ad L sh σ H locs ls) (hE : mEX adc adV S0 s s.heap) (hAS : ∀ q, A q → S0 ≤ q) (hRf : 21 + d0 ≤ R.frames) (hRl : 460 + 60 * d0 ≤ R.locals) (hc : cl ≤ R.cells) (hs : sl ≤ R.slots) (hi : ¬ mstr i = []) (hw : mwat w (.methodLink own k yJ0_charAt_5068e) = true) (hd : decode cc pc = .ok (.invokevirtual k, 3)) (hcat : (rest.map fun v => v.category).sum ≤ 8) {z : Nat} (hz : z < (mstr i).length)
    (kk : W p l e R s m args below meth c H locs cl sl WQ (F0 m (pc + 3) ls (.int (nI ((mstr i).getD z 0)) :: rest))) : W p l e R s m args below meth c H locs cl sl WQ (F0 m pc ls (.int (nI z) :: .ref (adc (1000 + i)) :: rest)) := by
  obtain ⟨hx, hbc, hml, hown, hts, hKt, hA⟩ := id hy
  obtain ⟨hi1, hi2, hi3⟩ := mstr_ok hi
  have hE2 : mEX adc adV S0 s H := hE.kept fun a ha hna => h.2.2.1.2.1 a ha (fun z => hna (hAS a z))
  have hv := hE2.2.1 i hi1 hi
  have hg := hE2.2.2.1
  have hG : GoodIn gtbl (wsV own k RJ0 yJ0_charAt_5068e wJ0_charAt_5068e) := mgG fun w9 hw2 => by
    unfold wsV at hw2
    rcases List.mem_append.mp hw2 with z | z
    · simp only [List.mem_cons, List.not_mem_nil, or_false] at z
      rcases z with rfl | rfl | rfl | rfl
      · exact mwat_in hw
      · exact kM_ci
      · exact kM_cs
      · exact kM_si
    · exact (gM_charAt w9 z).1
  refine W.callR (r := nI ((mstr i).getD z 0)) (W.runV (As := [.int (nI z)]) (rest := rest) ⟨hx, hbc, hml, hown, hts⟩ (cJ_charAt l (fun q => S0 ≤ q) (adc (1000 + i)) (adV i) (mstr i) (by omega) z hz (hi3 z)) (cwV 1 hts hG rfl rfl rfl (by decide +kernel) ⟨by simp only [mrm]; omega, by simp only [mrm]; omega⟩) ⟨mPs_blind, ?_, fun U hU hW => ⟨rfl, by rw [hU]; exact hv.moved hW.alike, by rw [hU]; exact hg.moved hW.alike⟩⟩ rfl rfl h.2.2.2.1 rfl (lv_room hcat) hd ⟨by omega, by omega⟩) ?_
  · obtain ⟨cell, h1, h2, h3, -⟩ := hv.1
    exact ⟨cell, h1, h2, h3⟩
  exact W.eq rfl kk
end MBX
end
section
/-! what bx says at each instruction -/
section MBU
variable {C : mCt} {mi : Nat → Nat × Nat × Nat} {msp : Nat → List mSh} {scr : Option (Nat × (Nat → Int32))} {mc ms : Nat} {rb : Bool} {J : mJt} {Q : mPst} {is : List mIt} {L : mLc} {st : List Value} {sh : List mSh} {σ : mSg} {c n len w a b d : Nat} {ps : List (Nat × Nat)}
theorem bu_nop  : bx C mi msp scr mc ms rb J Q ((.nop , len, w, a, b, d, ps) :: is) L st sh σ c n = (J a (mkl b L) st sh σ c n) := rfl
theorem bu_goto {z0 : Int} : bx C mi msp scr mc ms rb J Q ((.goto z0, len, w, a, b, d, ps) :: is) L st sh σ c n = (J a (mkl b L) st sh σ c n) := rfl
theorem bu_ifCond {k : Jvm.ClassFile.Cond} {z1 : Int} : bx C mi msp scr mc ms rb J Q ((.ifCond k z1, len, w, a, b, d, ps) :: is) L st sh σ c n = (match st with
      | .int x :: r => mbr k x 0 (J a (mkl b L) r sh σ c n) (bx C mi msp scr mc ms rb J Q is L r sh σ c n)
      | _ => False) := rfl
theorem bu_if_icmp {k : Jvm.ClassFile.Cond} {z1 : Int} : bx C mi msp scr mc ms rb J Q ((.if_icmp k z1, len, w, a, b, d, ps) :: is) L st sh σ c n = (match st with
      | .int y :: .int x :: r => mbr k x y (J a (mkl b L) r sh σ c n) (bx C mi msp scr mc ms rb J Q is L r sh σ c n)
      | _ => False) := rfl
theorem bu_tableswitch {z0 : Int} {lo : Int} {hi : Int} {z3 : Array Int} : bx C mi msp scr mc ms rb J Q ((.tableswitch z0 lo hi z3, len, w, a, b, d, ps) :: is) L st sh σ c n = (match st with
      | .int x :: r => (x.toInt < lo ∨ hi < x.toInt → J a (mkl b L) r sh σ c n) ∧ msw x (fun t m => J t (mkl m L) r sh σ c n) lo ps
      | _ => False) := rfl
theorem bu_istore {k : Nat} : bx C mi msp scr mc ms rb J Q ((.istore k, len, w, a, b, d, ps) :: is) L st sh σ c n = (match st with | .int x :: r => bx C mi msp scr mc ms rb J Q is (mst1 L k (.int x)) r sh σ c n | _ => False) := rfl
theorem bu_istore_n {k : Fin 4} : bx C mi msp scr mc ms rb J Q ((.istore_n k, len, w, a, b, d, ps) :: is) L st sh σ c n = (match st with | .int x :: r => bx C mi msp scr mc ms rb J Q is (mst1 L k.val (.int x)) r sh σ c n | _ => False) := rfl
theorem bu_astore {k : Nat} : bx C mi msp scr mc ms rb J Q ((.astore k, len, w, a, b, d, ps) :: is) L st sh σ c n = (match st with | .ref x :: r => bx C mi msp scr mc ms rb J Q is (mst1 L k (.ref x)) r sh σ c n | _ => False) := rfl
theorem bu_astore_n {k : Fin 4} : bx C mi msp scr mc ms rb J Q ((.astore_n k, len, w, a, b, d, ps) :: is) L st sh σ c n = (match st with | .ref x :: r => bx C mi msp scr mc ms rb J Q is (mst1 L k.val (.ref x)) r sh σ c n | _ => False) := rfl
theorem bu_lstore {k : Nat} : bx C mi msp scr mc ms rb J Q ((.lstore k, len, w, a, b, d, ps) :: is) L st sh σ c n = (match st with | .long x :: r => bx C mi msp scr mc ms rb J Q is (mst2 L k (.long x)) r sh σ c n | _ => False) := rfl
theorem bu_lstore_n {k : Fin 4} : bx C mi msp scr mc ms rb J Q ((.lstore_n k, len, w, a, b, d, ps) :: is) L st sh σ c n = (match st with | .long x :: r => bx C mi msp scr mc ms rb J Q is (mst2 L k.val (.long x)) r sh σ c n | _ => False) := rfl
theorem bu_iinc {k : Nat} {z1 : Int} : bx C mi msp scr mc ms rb J Q ((.iinc k z1, len, w, a, b, d, ps) :: is) L st sh σ c n = (match mnx L k with
      | some (some (.int x)) => bx C mi msp scr mc ms rb J Q is (mst1 L k (.int (match d with | 0 => x + nI a | _ => x - nI a))) st sh σ c n
      | _ => False) := rfl
theorem bu_idiv  : bx C mi msp scr mc ms rb J Q ((.idiv , len, w, a, b, d, ps) :: is) L st sh σ c n = (match st with | .int y :: .int x :: r => ¬ y = 0 ∧ bx C mi msp scr mc ms rb J Q is L (.int (x / y) :: r) sh σ c n | _ => False) := rfl
theorem bu_irem  : bx C mi msp scr mc ms rb J Q ((.irem , len, w, a, b, d, ps) :: is) L st sh σ c n = (match st with | .int y :: .int x :: r => ¬ y = 0 ∧ bx C mi msp scr mc ms rb J Q is L (.int (x - x / y * y) :: r) sh σ c n | _ => False) := rfl
theorem bu_ldiv  : bx C mi msp scr mc ms rb J Q ((.ldiv , len, w, a, b, d, ps) :: is) L st sh σ c n = (match st with | .long y :: .long x :: r => ¬ y = 0 ∧ bx C mi msp scr mc ms rb J Q is L (.long (x / y) :: r) sh σ c n | _ => False) := rfl
theorem bu_getstatic {z0 : Nat} : bx C mi msp scr mc ms rb J Q ((.getstatic z0, len, w, a, b, d, ps) :: is) L st sh σ c n = (bx C mi msp scr mc ms rb J Q is L (.ref 1200 :: st) sh σ c n) := rfl
theorem bu_getfield {z0 : Nat} : bx C mi msp scr mc ms rb J Q ((.getfield z0, len, w, a, b, d, ps) :: is) L st sh σ c n = (match st with
      | .ref r :: rest => match mnx sh r with
        | some (.inl (k, fs)) => match Nat.beq k a with
          | true => match mnx fs b with
            | some none => bx C mi msp scr mc ms rb J Q is L (.int (σ r b) :: rest) sh σ c n
            | some (some (some q)) => bx C mi msp scr mc ms rb J Q is L (.ref q :: rest) sh σ c n
            | _ => False
          | false => False
        | _ => False
      | _ => False) := rfl
theorem bu_putfield {z0 : Nat} : bx C mi msp scr mc ms rb J Q ((.putfield z0, len, w, a, b, d, ps) :: is) L st sh σ c n = (match st with
      | .int x :: .ref r :: rest => match mnx sh r with
        | some (.inl (k, fs)) => match Nat.beq k a with
          | true => match mnx fs b with
            | some none => match d with
              | 0 => bx C mi msp scr mc ms rb J Q is L rest sh (mput σ r b x) c n
              | 1 => (x = 0 ∨ x = 1) ∧ bx C mi msp scr mc ms rb J Q is L rest sh (mput σ r b x) c n
              | _ => False
            | _ => False
          | false => False
        | _ => False
      | .ref q :: .ref r :: rest => match mnx sh r with
        | some (.inl (k, fs)) => match Nat.beq k a && Nat.blt q 1000 with
          | true => match mnx fs b with
            | some (some _) => match d with
              | 2 => bx C mi msp scr mc ms rb J Q is L rest (mse sh r (.inl (k, mse fs b (some (some q))))) σ c n
              | _ => False
            | _ => False
          | false => False
        | _ => False
      | _ => False) := rfl
theorem bu_iaload  : bx C mi msp scr mc ms rb J Q ((.iaload , len, w, a, b, d, ps) :: is) L st sh σ c n = (match st with
      | .int x :: .ref r :: rest => match Nat.ble 1000 r with
        | true => match mrow scr r with
          | some (N, f) => vp_in x N ∧ bx C mi msp scr mc ms rb J Q is L (.int (f x.toNatClampNeg) :: rest) sh σ c n
          | none => False
        | false => match mnx sh r with
          | some (.inr (.inl N)) => vp_in x N ∧ bx C mi msp scr mc ms rb J Q is L (.int (σ r x.toNatClampNeg) :: rest) sh σ c n
          | _ => False
      | _ => False) := rfl
theorem bu_iastore  : bx C mi msp scr mc ms rb J Q ((.iastore , len, w, a, b, d, ps) :: is) L st sh σ c n = (match st with
      | .int v :: .int x :: .ref r :: rest => match mnx sh r with
        | some (.inr (.inl N)) => vp_in x N ∧ bx C mi msp scr mc ms rb J Q is L rest sh (mput σ r x.toNatClampNeg v) c n
        | _ => False
      | _ => False) := rfl
theorem bu_laload  : bx C mi msp scr mc ms rb J Q ((.laload , len, w, a, b, d, ps) :: is) L st sh σ c n = (match st with
      | .int x :: .ref r :: rest => match mnx sh r with
        | some (.inr (.inr (.inl N))) => vp_in x N ∧ bx C mi msp scr mc ms rb J Q is L (.long (σ r x.toNatClampNeg).toInt64 :: rest) sh σ c n
        | _ => False
      | _ => False) := rfl
theorem bu_lastore  : bx C mi msp scr mc ms rb J Q ((.lastore , len, w, a, b, d, ps) :: is) L st sh σ c n = (match st with
      | .long v :: .int x :: .ref r :: rest => match mnx sh r with
        | some (.inr (.inr (.inl N))) => vp_in x N ∧ v.toInt32.toInt64 = v ∧ bx C mi msp scr mc ms rb J Q is L rest sh (mput σ r x.toNatClampNeg v.toInt32) c n
        | _ => False
      | _ => False) := rfl
theorem bu_aaload  : bx C mi msp scr mc ms rb J Q ((.aaload , len, w, a, b, d, ps) :: is) L st sh σ c n = (match st with
      | .int x :: .ref r :: rest => match mnx sh r with
        | some (.inr (.inr (.inr rs))) => vp_in x rs.length ∧ ∃ q, mnx rs x.toNatClampNeg = some (some q) ∧ bx C mi msp scr mc ms rb J Q is L (.ref q :: rest) sh σ c n
        | _ => False
      | _ => False) := rfl
theorem bu_aastore  : bx C mi msp scr mc ms rb J Q ((.aastore , len, w, a, b, d, ps) :: is) L st sh σ c n = (match st with
      | .ref q :: .int x :: .ref r :: rest => match mnx sh r, mnx sh q with
        | some (.inr (.inr (.inr rs))), some (.inl (7, _)) => match Nat.blt q 1000 with
          | true => vp_in x rs.length ∧ bx C mi msp scr mc ms rb J Q is L rest (mse sh r (.inr (.inr (.inr (mse rs x.toNatClampNeg (some q)))))) σ c n
          | false => False
        | _, _ => False
      | _ => False) := rfl
theorem bu_arraylength  : bx C mi msp scr mc ms rb J Q ((.arraylength , len, w, a, b, d, ps) :: is) L st sh σ c n = (match st with
      | .ref r :: rest => match Nat.ble 1000 r with
        | true => match r with
          | 1201 => match scr with
            | some (N, _) => bx C mi msp scr mc ms rb J Q is L (.int (nI N) :: rest) sh σ c n
            | none => False
          | _ => False
        | false => match mnx sh r with
          | some (.inr (.inl N)) => bx C mi msp scr mc ms rb J Q is L (.int (nI N) :: rest) sh σ c n
          | some (.inr (.inr (.inr rs))) => bx C mi msp scr mc ms rb J Q is L (.int (nI rs.length) :: rest) sh σ c n
          | _ => False
      | _ => False) := rfl
theorem bu_newarray {t} : bx C mi msp scr mc ms rb J Q ((.newarray t, len, w, a, b, d, ps) :: is) L st sh σ c n = (match st with
      | .int x :: rest => match (mokV sh.length rest && mokL sh.length L) && (mokS sh.length sh && (Nat.blt sh.length 1000 && (Nat.ble (c + 1) mc && (Nat.ble (n + a) ms && Nat.ble a 100000)))) with
        | true => match t with
          | .int => x = nI a ∧ bx C mi msp scr mc ms rb J Q is L (.ref sh.length :: rest) (sh ++ [.inr (.inl a)]) (mnew σ sh.length) (c + 1) (n + a)
          | .long => x = nI a ∧ bx C mi msp scr mc ms rb J Q is L (.ref sh.length :: rest) (sh ++ [.inr (.inr (.inl a))]) (mnew σ sh.length) (c + 1) (n + a)
          | _ => False
        | false => False
      | _ => False) := rfl
theorem bu_anewarray {z0 : Nat} : bx C mi msp scr mc ms rb J Q ((.anewarray z0, len, w, a, b, d, ps) :: is) L st sh σ c n = (match st with
      | .int x :: rest => match (mokV sh.length rest && mokL sh.length L) && (mokS sh.length sh && (Nat.blt sh.length 1000 && (Nat.ble (c + 1) mc && (Nat.ble (n + a) ms && Nat.ble a 100000)))) with
        | true => x = nI a ∧ bx C mi msp scr mc ms rb J Q is L (.ref sh.length :: rest) (sh ++ [.inr (.inr (.inr (List.replicate a none)))]) (mnew σ sh.length) (c + 1) (n + a)
        | false => False
      | _ => False) := rfl
theorem bu_new9 {z0 : Nat} : bx C mi msp scr mc ms rb J Q ((.new z0, len, w, a, b, 9, ps) :: is) L st sh σ c n = (match Nat.ble (mcat st) 8 && (Nat.ble (c + 1) mc && Nat.ble (n + 6) ms) with
        | true => Q (.inr a) sh σ
        | false => False) := rfl
theorem bu_new0 {z0 : Nat} : bx C mi msp scr mc ms rb J Q ((.new z0, len, w, a, b, 0, ps) :: is) L st sh σ c n = (match (mokV sh.length st && mokL sh.length L) && (mokS sh.length sh && (Nat.blt sh.length 1000 && (Nat.ble (c + 1) mc && Nat.ble (n + (mbf a).length) ms))) with
        | true => bx C mi msp scr mc ms rb J Q is L (.ref sh.length :: st) (sh ++ [.inl (a, mbf a)]) (mnew σ sh.length) (c + 1) (n + (mbf a).length)
        | false => False) := rfl
theorem bu_invokevirtual7 {z0 : Nat} : bx C mi msp scr mc ms rb J Q ((.invokevirtual z0, len, w, a, b, 7, ps) :: is) L st sh σ c n = (match st with
        | .ref r :: rest => mslen (Nat.ble 1000 r && (Nat.ble (mcat rest) 8 && (Nat.ble c mc && Nat.ble n ms))) r (fun x => bx C mi msp scr mc ms rb J Q is L (.int x :: rest) sh σ c n)
        | _ => False) := rfl
theorem bu_invokevirtual8 {z0 : Nat} : bx C mi msp scr mc ms rb J Q ((.invokevirtual z0, len, w, a, b, 8, ps) :: is) L st sh σ c n = (match st with
        | .int x :: .ref r :: rest => mschr (Nat.ble 1000 r && (Nat.ble (mcat rest) 8 && (Nat.ble c mc && Nat.ble n ms))) r x (fun y => bx C mi msp scr mc ms rb J Q is L (.int y :: rest) sh σ c n)
        | _ => False) := rfl
theorem bu_invokevirtual0 {z0 : Nat} : bx C mi msp scr mc ms rb J Q ((.invokevirtual z0, len, w, a, b, 0, ps) :: is) L st sh σ c n = (match mrc sh (mi a).2.2 (mtk b st).reverse && ((mokV sh.length (mdr b st) && mokL sh.length L) && ((Nat.ble b st.length && Nat.ble (mcat (mdr b st)) 8) && (Nat.ble (c + (mi a).1) mc && Nat.ble (n + (mi a).2.1) ms))) with
        | true => C a (mtk b st).reverse sh σ (mend J Q ps L (c + (mi a).1) (n + (mi a).2.1) (fun v sh2 σ2 => bx C mi msp scr mc ms rb J Q is L (v ++ mdr b st) sh2 σ2 (c + (mi a).1) (n + (mi a).2.1)))
        | false => False) := rfl
theorem bu_invokevirtual1 {z0 : Nat} : bx C mi msp scr mc ms rb J Q ((.invokevirtual z0, len, w, a, b, 1, ps) :: is) L st sh σ c n = (match mrc sh (mi a).2.2 (mtk b st).reverse && (mck (mrg sh (mtk b st).reverse) sh (msp a) && ((Nat.ble b st.length && Nat.ble (mcat (mdr b st)) 8) && (Nat.ble (c + (mi a).1) mc && Nat.ble (n + (mi a).2.1) ms))) with
        | true => match mrv (mrg sh (mtk b st).reverse) (mtk b st).reverse with
          | some as => C a as (msp a) (fun j => σ (mgl (mrg sh (mtk b st).reverse) j)) (mloc (msp a) (fun o σ2 => mend J Q ps L (c + (mi a).1) (n + (mi a).2.1) (fun v sh2 σ3 => bx C mi msp scr mc ms rb J Q is L (v ++ mdr b st) sh2 σ3 (c + (mi a).1) (n + (mi a).2.1)) o sh (mback (mrg sh (mtk b st).reverse) σ σ2)))
          | none => False
        | false => False) := rfl
theorem bu_invokestatic2 {z0 : Nat} : bx C mi msp scr mc ms rb J Q ((.invokestatic z0, len, w, a, b, 2, ps) :: is) L st sh σ c n = (match st with | .int y :: .int x :: r => (match (Nat.ble (mcat r) 8 && (Nat.ble c mc && Nat.ble n ms)) with | true => bx C mi msp scr mc ms rb J Q is L (.int (if x < y then y else x) :: r) sh σ c n | false => False) | _ => False) := rfl
theorem bu_invokestatic3 {z0 : Nat} : bx C mi msp scr mc ms rb J Q ((.invokestatic z0, len, w, a, b, 3, ps) :: is) L st sh σ c n = (match st with | .int y :: .int x :: r => (match (Nat.ble (mcat r) 8 && (Nat.ble c mc && Nat.ble n ms)) with | true => bx C mi msp scr mc ms rb J Q is L (.int (if x < y then x else y) :: r) sh σ c n | false => False) | _ => False) := rfl
theorem bu_invokestatic4 {z0 : Nat} : bx C mi msp scr mc ms rb J Q ((.invokestatic z0, len, w, a, b, 4, ps) :: is) L st sh σ c n = (match st with | .int x :: r => (match (Nat.ble (mcat r) 8 && (Nat.ble c mc && Nat.ble n ms)) with | true => bx C mi msp scr mc ms rb J Q is L (.int (if 0 ≤ x then x else 0 - x) :: r) sh σ c n | false => False) | _ => False) := rfl
theorem bu_invokestatic5 {z0 : Nat} : bx C mi msp scr mc ms rb J Q ((.invokestatic z0, len, w, a, b, 5, ps) :: is) L st sh σ c n = (match st with
        | .int k :: .int dp :: .ref q :: .int sp :: .ref r :: rest => match mnx sh r, mnx sh q with
          | some (.inr (.inl N)), some (.inr (.inl M)) => match (Nat.ble (mcat rest) 8 && (Nat.ble c mc && Nat.ble n ms)) with
            | true => (¬ sp < 0 ∧ ¬ dp < 0 ∧ ¬ k < 0 ∧ sp.toNatClampNeg + k.toNatClampNeg ≤ N ∧ dp.toNatClampNeg + k.toNatClampNeg ≤ M) ∧ bx C mi msp scr mc ms rb J Q is L rest sh (fun b2 => if b2 = q then va_cpy (σ r) (σ q) sp.toNatClampNeg dp.toNatClampNeg k.toNatClampNeg else σ b2) c n
            | false => False
          | _, _ => False
        | _ => False) := rfl
theorem bu_invokestatic0 {z0 : Nat} : bx C mi msp scr mc ms rb J Q ((.invokestatic z0, len, w, a, b, 0, ps) :: is) L st sh σ c n = (match (mokV sh.length (mdr b st) && mokL sh.length L) && ((Nat.ble b st.length && Nat.ble (mcat (mdr b st)) 8) && (Nat.ble (c + (mi a).1) mc && Nat.ble (n + (mi a).2.1) ms)) with
        | true => C a (mtk b st).reverse sh σ (mend J Q ps L (c + (mi a).1) (n + (mi a).2.1) (fun v sh2 σ2 => bx C mi msp scr mc ms rb J Q is L (v ++ mdr b st) sh2 σ2 (c + (mi a).1) (n + (mi a).2.1)))
        | false => False) := rfl
theorem bu_invokestatic1 {z0 : Nat} : bx C mi msp scr mc ms rb J Q ((.invokestatic z0, len, w, a, b, 1, ps) :: is) L st sh σ c n = (match mck (mrg sh (mtk b st).reverse) sh (msp a) && ((Nat.ble b st.length && Nat.ble (mcat (mdr b st)) 8) && (Nat.ble (c + (mi a).1) mc && Nat.ble (n + (mi a).2.1) ms)) with
        | true => match mrv (mrg sh (mtk b st).reverse) (mtk b st).reverse with
          | some as => C a as (msp a) (fun j => σ (mgl (mrg sh (mtk b st).reverse) j)) (mloc (msp a) (fun o σ2 => mend J Q ps L (c + (mi a).1) (n + (mi a).2.1) (fun v sh2 σ3 => bx C mi msp scr mc ms rb J Q is L (v ++ mdr b st) sh2 σ3 (c + (mi a).1) (n + (mi a).2.1)) o sh (mback (mrg sh (mtk b st).reverse) σ σ2)))
          | none => False
        | false => False) := rfl
theorem bu_invokespecial6 {z0 : Nat} : bx C mi msp scr mc ms rb J Q ((.invokespecial z0, len, w, a, b, 6, ps) :: is) L st sh σ c n = (match st with | .ref _ :: r => (match (Nat.ble (mcat r) 8 && (Nat.ble c mc && Nat.ble n ms)) with | true => bx C mi msp scr mc ms rb J Q is L r sh σ c n | false => False) | _ => False) := rfl
theorem bu_invokespecial0 {z0 : Nat} : bx C mi msp scr mc ms rb J Q ((.invokespecial z0, len, w, a, b, 0, ps) :: is) L st sh σ c n = (match mrc sh (mi a).2.2 (mtk b st).reverse && ((mokV sh.length (mdr b st) && mokL sh.length L) && ((Nat.ble b st.length && Nat.ble (mcat (mdr b st)) 8) && (Nat.ble (c + (mi a).1) mc && Nat.ble (n + (mi a).2.1) ms))) with
        | true => C a (mtk b st).reverse sh σ (mend J Q ps L (c + (mi a).1) (n + (mi a).2.1) (fun v sh2 σ2 => bx C mi msp scr mc ms rb J Q is L (v ++ mdr b st) sh2 σ2 (c + (mi a).1) (n + (mi a).2.1)))
        | false => False) := rfl
theorem bu_ireturn  : bx C mi msp scr mc ms rb J Q ((.ireturn , len, w, a, b, d, ps) :: is) L st sh σ c n = (match st with
      | [.int x] => match Nat.ble c mc && Nat.ble n ms with
        | true => match rb with
          | true => (x = 0 ∨ x = 1) ∧ Q (.inl (some (.int x))) sh σ
          | false => Q (.inl (some (.int x))) sh σ
        | false => False
      | _ => False) := rfl
theorem bu_lreturn  : bx C mi msp scr mc ms rb J Q ((.lreturn , len, w, a, b, d, ps) :: is) L st sh σ c n = (match st with
      | [.long x] => match Nat.ble c mc && Nat.ble n ms with | true => Q (.inl (some (.long x))) sh σ | false => False
      | _ => False) := rfl
theorem bu_return_  : bx C mi msp scr mc ms rb J Q ((.return_ , len, w, a, b, d, ps) :: is) L st sh σ c n = (match st with
      | [] => match Nat.ble c mc && Nat.ble n ms with | true => Q (.inl none) sh σ | false => False
      | _ => False) := rfl
end MBU
end
section
/-! THE THEOREM, by the instructions -/
theorem mfpb_2 {own : String} {a b : Nat} {P : Prop} (h : mfpb own false a b 2 = true) : P := by
  unfold mfpb at h
  split at h
  · simp at h
  · cases h
theorem mtk_len2 : ∀ (n : Nat) (l : List Value), (mtk n l).length = n → n ≤ l.length
  | 0, _, _ => Nat.zero_le _
  | _ + 1, [], h => by simp [mtk] at h
  | n + 1, v :: l, h => by
    rw [mtk, List.length_cons] at h
    have := mtk_len2 n l (by omega)
    simp only [List.length_cons]; omega
theorem mslen_at {r c n mc ms k : Nat} {K : Int32 → Prop} (h : mslen (Nat.ble 1000 r && (Nat.ble k 8 && (Nat.ble c mc && Nat.ble n ms))) r K) : ∃ i, ¬ mstr i = [] ∧ k ≤ 8 ∧ c ≤ mc ∧ n ≤ ms ∧ r = 1000 + i ∧ K (nI (mstr i).length) := by
  unfold mslen at h
  split at h
  · rename_i hb
    obtain ⟨o1, hb⟩ := mit_gen hb
    obtain ⟨o2, hb⟩ := mit_gen hb
    obtain ⟨o3, o4⟩ := mit_gen hb
    have o1 := Nat.le_of_ble_eq_true o1
    split at h
    · exact h.elim
    · rename_i z cs hz
      exact ⟨r - 1000, by rw [hz]; simp, Nat.le_of_ble_eq_true o2, Nat.le_of_ble_eq_true o3, Nat.le_of_ble_eq_true o4, by omega, by rw [hz]; exact h⟩
  · exact h.elim
theorem mschr_at {r c n mc ms k : Nat} {x : Int32} {K : Int32 → Prop} (h : mschr (Nat.ble 1000 r && (Nat.ble k 8 && (Nat.ble c mc && Nat.ble n ms))) r x K) : ∃ i z, ¬ mstr i = [] ∧ k ≤ 8 ∧ c ≤ mc ∧ n ≤ ms ∧ r = 1000 + i ∧ x = nI z ∧ z < (mstr i).length ∧ K (nI ((mstr i).getD z 0)) := by
  unfold mschr at h
  split at h
  · rename_i hb
    obtain ⟨o1, hb⟩ := mit_gen hb
    obtain ⟨o2, hb⟩ := mit_gen hb
    obtain ⟨o3, o4⟩ := mit_gen hb
    have o1 := Nat.le_of_ble_eq_true o1
    split at h
    · exact h.elim
    · rename_i z cs hz
      have hn : ¬ mstr (r - 1000) = [] := by rw [hz]; simp
      have hl := (mstr_ok hn).2.1
      rw [← hz] at h
      obtain ⟨j, hj, e⟩ := vp_in_of h.1 (by omega)
      subst e
      rw [nI_clamp (by omega)] at h
      exact ⟨r - 1000, j, hn, Nat.le_of_ble_eq_true o2, Nat.le_of_ble_eq_true o3, Nat.le_of_ble_eq_true o4, by omega, rfl, hj, h.2⟩
  · exact h.elim
theorem kM_cp1 : mwat 518 (.native arraycopyName) = true := by decide +kernel
theorem kM_cp2 : mwat 517 (.static arraycopyName) = true := by decide +kernel
theorem kM_cp3 : mwat 130 (.initialized "java/lang/System") = true := by decide +kernel
section MBM
variable {p : Program} {l : Launch} {e : Env} {R : Room} {s : State} {m : MethodId} {args : Array Value} {below : List Frame} {meth : Method} {c : Code} {WQ : State → Prop}
variable {own : String} {cc : ByteArray} {nL : Nat} {D : va_G} {cy : mCy} {A : Nat → Prop} {S0 n0 d0 : Nat} {ad0 adc adV : Nat → Nat}
variable {tb : Nat → mTe} {NM : Nat} {hh : List (Nat × Nat × Nat × Nat)} {init : Bool} {C : mCt} {mi : Nat → Nat × Nat × Nat} {msp : Nat → List mSh} {scr : Option (Nat × (Nat → Int32))} {mc ms : Nat} {rb : Bool} {J : mJt} {Q : mPst}
set_option maxRecDepth 100000 in
set_option maxHeartbeats 4000000 in
theorem mW_bx (hy : mHy p s m args c own cc nL D cy A) (hE : mEX adc adV S0 s s.heap) (hAS : ∀ q, A q → S0 ≤ q) (hS0 : S0 ≤ s.heap.size) (had : ∀ i, 1000 ≤ i → ad0 i = adc i) (hRf : 21 + d0 ≤ R.frames) (hRl : 460 + 60 * d0 ≤ R.locals) (hRc : R.cells = mc) (hRs : R.slots = ms)
    (htb : ∀ j, j < NM → mteb (tb j) = true) (hC : ∀ (j : Nat) (as : List Value) (sh : List mSh) (σ : mSg) (Q2 : mPst), j < NM → C j as sh σ Q2 → mMet l D cy S0 adc adV (tb j).1 d0 (mi j).1 (mi j).2.1 as sh σ Q2) (hcls : ∀ j, j < NM → (tb j).2.1 = 0 → (mi j).2.2 = (tb j).2.2.2.1) (hinit : init = true → meth.name = "<init>") (htab : c.exceptionTable.toList = tableOf hh)
    (hscr : ∀ (N : Nat) (f : Nat → Int32), scr = some (N, f) → va_X (adc 1201) N f s s.heap ∧ adc 1201 < s.heap.size ∧ ¬ A (adc 1201))
    (hJ : ∀ (lb : Nat) (L : mLc) (st : List Value) (sh : List mSh) (σ : mSg) (cl sl : Nat), J lb L st sh σ cl sl → mWt p l e R s m args below meth c D cy A nL WQ n0 ad0 lb L st sh σ cl sl)
    (hri : ∀ (x : Int32) (pc : Nat) (L : mLc) (sh : List mSh) (σ : mSg) (cl sl : Nat), decode cc pc = .ok (.ireturn, 1) → (rb = true → x = 0 ∨ x = 1) → cl ≤ mc → sl ≤ ms → Q (.inl (some (.int x))) sh σ → mWt p l e R s m args below meth c D cy A nL WQ n0 ad0 pc L [.int x] sh σ cl sl)
    (hrl : ∀ (x : Int64) (pc : Nat) (L : mLc) (sh : List mSh) (σ : mSg) (cl sl : Nat), decode cc pc = .ok (.lreturn, 1) → cl ≤ mc → sl ≤ ms → Q (.inl (some (.long x))) sh σ → mWt p l e R s m args below meth c D cy A nL WQ n0 ad0 pc L [.long x] sh σ cl sl)
    (hrv : ∀ (pc : Nat) (L : mLc) (sh : List mSh) (σ : mSg) (cl sl : Nat), decode cc pc = .ok (.return_, 1) → cl ≤ mc → sl ≤ ms → Q (.inl none) sh σ → mWt p l e R s m args below meth c D cy A nL WQ n0 ad0 pc L [] sh σ cl sl)
    (hth : ∀ (k w a : Nat) (ps : List (Nat × Nat)) (pc : Nat) (L : mLc) (st : List Value) (sh : List mSh) (σ : mSg) (cl sl : Nat), decode cc pc = .ok (.new k, 3) → mthb own cc pc k w a ps = true → mcat st ≤ 8 → cl + 1 ≤ mc → sl + 6 ≤ ms → Q (.inr a) sh σ → mWt p l e R s m args below meth c D cy A nL WQ n0 ad0 pc L st sh σ cl sl)
    (hxo : ∀ (x : Nat) (E : String) (ce : Cell) (q : Addr) (L : mLc) (sh : List mSh) (σ : mSg) (cl sl : Nat) (ad : Nat → Nat) (H : Heap) (locs : List Loc) (ls : Array Slot) (pc : Nat) (rest : List Value), Q (.inr x) sh σ → mnx mxl x = some E → mAg n0 ad ad0 → n0 ≤ sh.length → mRl s D cy A nL ad L sh σ H locs ls → cl ≤ mc → sl ≤ ms → H[q]? = some ce → ce.vm = .none → s.vm.findClass E = some ce.cls → (∀ z ∈ c.exceptionTable.toList, mpas own args s E pc z) → vx_W p l e R s m args below meth c H locs cl sl WQ (F0 m pc ls rest) q) :
    ∀ (is : List mIt) (pc : Nat) (L : mLc) (st : List Value) (sh : List mSh) (σ : mSg) (cl sl : Nat), mchk tb NM own cc nL hh init is pc = true → bx C mi msp scr mc ms rb J Q is L st sh σ cl sl → mWt p l e R s m args below meth c D cy A nL WQ n0 ad0 pc L st sh σ cl sl := by
  intro is
  induction is with
  | nil => intro pc L st sh σ cl sl _ h; exact h.elim
  | cons it is ih =>
    obtain ⟨i, len, w, a, b, d, ps⟩ := it
    intro pc L st sh σ cl sl hc h
    obtain ⟨hc, hcs⟩ := mit_gen hc
    obtain ⟨hx, hbc, hml, hown, hts, hKt, hA⟩ := id hy
    have hi := fun L2 st2 sh2 σ2 cl2 sl2 => ih (pc + len) L2 st2 sh2 σ2 cl2 sl2 hcs
    cases i with
    | nop =>
      have e : pc = a := of_decide_eq_true hc
      subst e
      intro ad H locs ls hag hn0 hR
      exact hJ _ _ _ _ _ _ _ h ad H locs ls hag hn0 (mRl_kl b hR)
    | goto off =>
      obtain ⟨hd, hk⟩ := mit_gen hc
      obtain ⟨h1, h2⟩ := mit_gen hk
      have e := of_decide_eq_true h1
      subst e
      intro ad H locs ls hag hn0 hR
      exact lv_goto hx hbc (mdec_at hd) (of_decide_eq_true h2) (hJ _ _ _ _ _ _ _ h ad H locs ls hag hn0 (mRl_kl b hR))
    | ifCond k off =>
      rw [bu_ifCond] at h
      obtain ⟨hd, hk⟩ := mit_gen hc
      obtain ⟨h1, h2⟩ := mit_gen hk
      have e := of_decide_eq_true h1
      subst e
      have h2 := of_decide_eq_true h2
      have hd := mdec_at hd
      split at h
      · rename_i x r
        intro ad H locs ls hag hn0 hR
        cases k with
        | eq => exact lv_if_eq hx hbc hd h2 (fun z => hJ _ _ _ _ _ _ _ (h.1 z) ad H locs ls hag hn0 (mRl_kl b hR)) (fun z => hi _ _ _ _ _ _ (h.2 z) ad H locs ls hag hn0 hR)
        | ne => exact lv_if_ne hx hbc hd h2 (fun z => hJ _ _ _ _ _ _ _ (h.1 z) ad H locs ls hag hn0 (mRl_kl b hR)) (fun z => hi _ _ _ _ _ _ (h.2 z) ad H locs ls hag hn0 hR)
        | lt => exact lv_if_lt hx hbc hd h2 (fun z => hJ _ _ _ _ _ _ _ (h.1 z) ad H locs ls hag hn0 (mRl_kl b hR)) (fun z => hi _ _ _ _ _ _ (h.2 z) ad H locs ls hag hn0 hR)
        | ge => exact lv_if_ge hx hbc hd h2 (fun z => hJ _ _ _ _ _ _ _ (h.1 z) ad H locs ls hag hn0 (mRl_kl b hR)) (fun z => hi _ _ _ _ _ _ (h.2 z) ad H locs ls hag hn0 hR)
        | gt => exact lv_if_gt hx hbc hd h2 (fun z => hJ _ _ _ _ _ _ _ (h.1 z) ad H locs ls hag hn0 (mRl_kl b hR)) (fun z => hi _ _ _ _ _ _ (h.2 z) ad H locs ls hag hn0 hR)
        | le => exact lv_if_le hx hbc hd h2 (fun z => hJ _ _ _ _ _ _ _ (h.1 z) ad H locs ls hag hn0 (mRl_kl b hR)) (fun z => hi _ _ _ _ _ _ (h.2 z) ad H locs ls hag hn0 hR)
      · exact h.elim
    | if_icmp k off =>
      rw [bu_if_icmp] at h
      obtain ⟨hd, hk⟩ := mit_gen hc
      obtain ⟨h1, h2⟩ := mit_gen hk
      have e := of_decide_eq_true h1
      subst e
      have h2 := of_decide_eq_true h2
      have hd := mdec_at hd
      split at h
      · rename_i y x r
        intro ad H locs ls hag hn0 hR
        cases k with
        | eq => exact lv_icmp_eq hx hbc hd h2 (fun z => hJ _ _ _ _ _ _ _ (h.1 z) ad H locs ls hag hn0 (mRl_kl b hR)) (fun z => hi _ _ _ _ _ _ (h.2 z) ad H locs ls hag hn0 hR)
        | ne => exact lv_icmp_ne hx hbc hd h2 (fun z => hJ _ _ _ _ _ _ _ (h.1 z) ad H locs ls hag hn0 (mRl_kl b hR)) (fun z => hi _ _ _ _ _ _ (h.2 z) ad H locs ls hag hn0 hR)
        | lt => exact lv_icmp_lt hx hbc hd h2 (fun z => hJ _ _ _ _ _ _ _ (h.1 z) ad H locs ls hag hn0 (mRl_kl b hR)) (fun z => hi _ _ _ _ _ _ (h.2 z) ad H locs ls hag hn0 hR)
        | ge => exact lv_icmp_ge hx hbc hd h2 (fun z => hJ _ _ _ _ _ _ _ (h.1 z) ad H locs ls hag hn0 (mRl_kl b hR)) (fun z => hi _ _ _ _ _ _ (h.2 z) ad H locs ls hag hn0 hR)
        | gt => exact lv_icmp_gt hx hbc hd h2 (fun z => hJ _ _ _ _ _ _ _ (h.1 z) ad H locs ls hag hn0 (mRl_kl b hR)) (fun z => hi _ _ _ _ _ _ (h.2 z) ad H locs ls hag hn0 hR)
        | le => exact lv_icmp_le hx hbc hd h2 (fun z => hJ _ _ _ _ _ _ _ (h.1 z) ad H locs ls hag hn0 (mRl_kl b hR)) (fun z => hi _ _ _ _ _ _ (h.2 z) ad H locs ls hag hn0 hR)
      · exact h.elim
    | tableswitch df lo hi2 offs =>
      rw [bu_tableswitch] at h
      obtain ⟨hd, hk⟩ := mit_gen hc
      obtain ⟨h1, hk⟩ := mit_gen hk
      obtain ⟨h2, h3⟩ := mit_gen hk
      have h1 := of_decide_eq_true h1
      have h2 := of_decide_eq_true h2
      have h3 := of_decide_eq_true h3
      have hd := mdec_at hd
      split at h
      · rename_i x r
        intro ad H locs ls hag hn0 hR
        by_cases hr : x.toInt < lo ∨ hi2 < x.toInt
        · exact lv_tableOut hx hbc hd hr h1 (hJ _ _ _ _ _ _ _ (h.1 hr) ad H locs ls hag hn0 (mRl_kl b hR))
        · have hk1 : (x.toInt - lo).toNat < ps.length := by omega
          have hk2 : offs.toList.length = ps.length := by simpa using congrArg List.length h3
          obtain ⟨t9, m9⟩ : Nat × Nat := ps[(x.toInt - lo).toNat]
          have e9 : ps[(x.toInt - lo).toNat]? = some (ps[(x.toInt - lo).toNat]) := List.getElem?_eq_getElem hk1
          have e8 : offs.toList[(x.toInt - lo).toNat]? = some (offs.toList[(x.toInt - lo).toNat]'(by omega)) := List.getElem?_eq_getElem (by omega)
          have e7 := congrArg (fun z => z[(x.toInt - lo).toNat]?) h3
          simp only [List.getElem?_map, e8, e9, Option.map_some] at e7
          have e6 := Option.some.inj e7
          have hj := msw_at ps lo h.2 (x.toInt - lo).toNat (ps[(x.toInt - lo).toNat]).1 (ps[(x.toInt - lo).toNat]).2 e9 (by omega)
          exact lv_tableIn hx hbc hd (fun z => hr (Or.inl z)) (fun z => hr (Or.inr z)) (by rw [← Array.getElem?_toList]; exact e8) e6 (hJ _ _ _ _ _ _ _ hj ad H locs ls hag hn0 (mRl_kl _ hR))
      · exact h.elim
    | istore k =>
      rw [bu_istore] at h
      obtain ⟨hd, hk⟩ := mit_gen hc
      obtain ⟨h1, h2⟩ := mit_gen hk
      have e := of_decide_eq_true h1
      subst e
      split at h
      · intro ad H locs ls hag hn0 hR
        exact lv_istore hx hbc (mdec_at hd) (mLR_has hR.2.2.2) (of_decide_eq_true h2) rfl (fun ls' hl' => hi _ _ _ _ _ _ h ad H locs ls' hag hn0 ⟨hR.1, hR.2.1, hR.2.2.1, mLR_st1 hl'⟩)
      · exact h.elim
    | istore_n k =>
      rw [bu_istore_n] at h
      obtain ⟨hd, hk⟩ := mit_gen hc
      obtain ⟨h1, h2⟩ := mit_gen hk
      have e := of_decide_eq_true h1
      subst e
      split at h
      · intro ad H locs ls hag hn0 hR
        exact lv_istore_n hx hbc (mdec_at hd) rfl (mLR_has hR.2.2.2) (of_decide_eq_true h2) rfl (fun ls' hl' => hi _ _ _ _ _ _ h ad H locs ls' hag hn0 ⟨hR.1, hR.2.1, hR.2.2.1, mLR_st1 hl'⟩)
      · exact h.elim
    | astore k =>
      rw [bu_astore] at h
      obtain ⟨hd, hk⟩ := mit_gen hc
      obtain ⟨h1, h2⟩ := mit_gen hk
      have e := of_decide_eq_true h1
      subst e
      split at h
      · intro ad H locs ls hag hn0 hR
        exact lv_astore hx hbc (mdec_at hd) (mLR_has hR.2.2.2) (of_decide_eq_true h2) rfl (fun ls' hl' => hi _ _ _ _ _ _ h ad H locs ls' hag hn0 ⟨hR.1, hR.2.1, hR.2.2.1, mLR_st1 hl'⟩)
      · exact h.elim
    | astore_n k =>
      rw [bu_astore_n] at h
      obtain ⟨hd, hk⟩ := mit_gen hc
      obtain ⟨h1, h2⟩ := mit_gen hk
      have e := of_decide_eq_true h1
      subst e
      split at h
      · intro ad H locs ls hag hn0 hR
        exact lv_astore_n hx hbc (mdec_at hd) rfl (mLR_has hR.2.2.2) (of_decide_eq_true h2) rfl (fun ls' hl' => hi _ _ _ _ _ _ h ad H locs ls' hag hn0 ⟨hR.1, hR.2.1, hR.2.2.1, mLR_st1 hl'⟩)
      · exact h.elim
    | lstore k =>
      rw [bu_lstore] at h
      obtain ⟨hd, hk⟩ := mit_gen hc
      obtain ⟨h1, h2⟩ := mit_gen hk
      have e := of_decide_eq_true h1
      subst e
      split at h
      · intro ad H locs ls hag hn0 hR
        exact lv_lstore hx hbc (mdec_at hd) (mLR_has hR.2.2.2) (of_decide_eq_true h2) rfl (fun ls' hl' => hi _ _ _ _ _ _ h ad H locs ls' hag hn0 ⟨hR.1, hR.2.1, hR.2.2.1, mLR_st2 hl'⟩)
      · exact h.elim
    | lstore_n k =>
      rw [bu_lstore_n] at h
      obtain ⟨hd, hk⟩ := mit_gen hc
      obtain ⟨h1, h2⟩ := mit_gen hk
      have e := of_decide_eq_true h1
      subst e
      split at h
      · intro ad H locs ls hag hn0 hR
        exact lv_lstore_n hx hbc (mdec_at hd) rfl (mLR_has hR.2.2.2) (of_decide_eq_true h2) rfl (fun ls' hl' => hi _ _ _ _ _ _ h ad H locs ls' hag hn0 ⟨hR.1, hR.2.1, hR.2.2.1, mLR_st2 hl'⟩)
      · exact h.elim
    | iinc k z =>
      rw [bu_iinc] at h
      obtain ⟨hd, hk⟩ := mit_gen hc
      obtain ⟨h1, hk⟩ := mit_gen hk
      obtain ⟨h2, h3⟩ := mit_gen hk
      have e := of_decide_eq_true h1
      subst e
      have h3 := of_decide_eq_true h3
      split at h
      · rename_i x hx9
        intro ad H locs ls hag hn0 hR
        rw [mnx_eq] at hx9
        have hin : (k, Value.int x) ∈ mas ad L := mas_mem.mpr ⟨.int x, hx9, rfl⟩
        obtain ⟨k9, hk9, e9⟩ := List.getElem_of_mem hin
        rcases d with _ | d
        · exact lv_iinc hx hbc (mdec_at hd) (mLR_has hR.2.2.2) (k := k9) (by rw [List.getElem?_eq_getElem hk9, e9]) (v := x + nI a) (by rw [h3]; rfl) (of_decide_eq_true h2) rfl (fun ls' hl' => hi _ _ _ _ _ _ h ad H locs ls' hag hn0 ⟨hR.1, hR.2.1, hR.2.2.1, mLR_st1 hl'⟩)
        · exact lv_iinc hx hbc (mdec_at hd) (mLR_has hR.2.2.2) (k := k9) (by rw [List.getElem?_eq_getElem hk9, e9]) (v := x - nI a) (by rw [h3, Int32.sub_eq_add_neg]; rfl) (of_decide_eq_true h2) rfl (fun ls' hl' => hi _ _ _ _ _ _ h ad H locs ls' hag hn0 ⟨hR.1, hR.2.1, hR.2.2.1, mLR_st1 hl'⟩)
      · exact h.elim
    | idiv =>
      rw [bu_idiv] at h
      obtain ⟨hd, hk⟩ := mit_gen hc
      have e := of_decide_eq_true hk
      subst e
      split at h
      · intro ad H locs ls hag hn0 hR
        exact lv_idiv hx hbc (mdec_at hd) h.1 (hi _ _ _ _ _ _ h.2 ad H locs ls hag hn0 hR)
      · exact h.elim
    | irem =>
      rw [bu_irem] at h
      obtain ⟨hd, hk⟩ := mit_gen hc
      have e := of_decide_eq_true hk
      subst e
      split at h
      · intro ad H locs ls hag hn0 hR
        exact lv_irem hx hbc (mdec_at hd) h.1 (hi _ _ _ _ _ _ h.2 ad H locs ls hag hn0 hR)
      · exact h.elim
    | ldiv =>
      rw [bu_ldiv] at h
      obtain ⟨hd, hk⟩ := mit_gen hc
      have e := of_decide_eq_true hk
      subst e
      split at h
      · intro ad H locs ls hag hn0 hR
        exact lv_ldiv hx hbc (mdec_at hd) h.1 (hi _ _ _ _ _ _ h.2 ad H locs ls hag hn0 hR)
      · exact h.elim
    | getstatic k =>
      rw [bu_getstatic] at h
      obtain ⟨hd, hk⟩ := mit_gen hc
      obtain ⟨h1, h2⟩ := mit_gen hk
      have e := of_decide_eq_true h1
      subst e
      intro ad H locs ls hag hn0 hR
      have e2 : ad 1200 = adc 1200 := by rw [hag 1200 (Or.inr (by omega)), had 1200 (by omega)]
      refine va_gets hx hbc (hE.2.2.2.1.1.narrow hAS) hR.2.2.1 hown (mword hts h2) (fun _ z => z) (mdec_at hd) ?_
      rw [← e2]
      exact hi _ _ _ _ _ _ h ad H locs ls hag hn0 hR
    | getfield k =>
      rw [bu_getfield] at h
      obtain ⟨hd, hk⟩ := mit_gen hc
      obtain ⟨h1, h2⟩ := mit_gen hk
      have e := of_decide_eq_true h1
      subst e
      split at h
      · rename_i r rest
        split at h
        · rename_i k9 fs hsh
          split at h
          · rename_i hb9
            have e9 := Nat.eq_of_beq_eq_true hb9
            subst e9
            intro ad H locs ls hag hn0 hR
            split at h
            · rename_i hf
              exact mW_get hy hR (mdec_at hd) h2 hsh hf (hi _ _ _ _ _ _ h ad H locs ls hag hn0 hR)
            · rename_i q hf
              exact mW_get hy hR (mdec_at hd) h2 hsh hf (hi _ _ _ _ _ _ h ad H locs ls hag hn0 hR)
            · exact h.elim
          · exact h.elim
        · exact h.elim
      · exact h.elim
    | putfield k =>
      rw [bu_putfield] at h
      obtain ⟨hd, hk⟩ := mit_gen hc
      obtain ⟨h1, hk⟩ := mit_gen hk
      obtain ⟨h2, h3⟩ := mit_gen hk
      have e := of_decide_eq_true h1
      subst e
      split at h
      · rename_i x r rest
        split at h
        · rename_i k9 fs hsh
          split at h
          · rename_i hb9
            have e9 := Nat.eq_of_beq_eq_true hb9
            subst e9
            intro ad H locs ls hag hn0 hR
            split at h
            · rename_i hf
              split at h
              · exact mW_put hy hR (mdec_at hd) h2 h3 hsh hf (Or.inl rfl) (fun H1 locs1 hR1 => hi _ _ _ _ _ _ h ad H1 locs1 ls hag hn0 hR1)
              · exact mW_put hy hR (mdec_at hd) h2 h3 hsh hf (Or.inr ⟨rfl, h.1⟩) (fun H1 locs1 hR1 => hi _ _ _ _ _ _ h.2 ad H1 locs1 ls hag hn0 hR1)
              · exact h.elim
            · exact h.elim
          · exact h.elim
        · exact h.elim
      · rename_i q r rest
        split at h
        · rename_i k9 fs hsh
          split at h
          · rename_i hb9
            obtain ⟨hb9, hb8⟩ := mit_gen hb9
            have e9 := Nat.eq_of_beq_eq_true hb9
            subst e9
            intro ad H locs ls hag hn0 hR
            split at h
            · rename_i y hf
              split at h
              · have hi9 : init = true := by
                  cases init with
                  | true => rfl
                  | false => exact (mfpb_2 h3)
                subst hi9
                exact mW_putR hy hR (mdec_at hd) h2 (hinit rfl) h3 hsh hf (fun H1 locs1 hR1 => hi _ _ _ _ _ _ h ad H1 locs1 ls hag (by rw [mse_eq, List.length_set]; exact hn0) hR1)
              · exact h.elim
            · exact h.elim
          · exact h.elim
        · exact h.elim
      · exact h.elim
    | iaload =>
      rw [bu_iaload] at h
      obtain ⟨hd, hk⟩ := mit_gen hc
      have e := of_decide_eq_true hk
      subst e
      split at h
      · rename_i x r rest
        intro ad H locs ls hag hn0 hR
        split at h
        · rename_i hr9
          have hr9 := Nat.le_of_ble_eq_true hr9
          have hra : ad r = adc r := by rw [hag r (Or.inr hr9), had r hr9]
          split at h
          · rename_i N f hm
            have hcase : (r = 1200 ∧ N = 4 ∧ f = mrat) ∨ (r = 1201 ∧ scr = some (N, f)) := by
              unfold mrow at hm
              split at hm
              · cases hm; exact Or.inl ⟨rfl, rfl, rfl⟩
              · exact Or.inr ⟨rfl, hm⟩
              · cases hm
            rcases hcase with ⟨rfl, rfl, rfl⟩ | ⟨rfl, hs9⟩
            · have hgo := hi _ _ _ _ _ _ h.2 ad H locs ls hag hn0 hR
              show W p l e R s m args below meth c H locs cl sl WQ (F0 m pc ls (.int x :: .ref (ad 1200) :: rest.map (mvm ad)))
              rw [hra]
              exact va_ti hx hbc (hE.2.2.2.1.2.narrow hAS) hR.2.2.1 h.1 rfl (mdec_at hd) hgo
            · have hgo := hi _ _ _ _ _ _ h.2 ad H locs ls hag hn0 hR
              obtain ⟨g1, g2, g3⟩ := hscr N f hs9
              show W p l e R s m args below meth c H locs cl sl WQ (F0 m pc ls (.int x :: .ref (ad 1201) :: rest.map (mvm ad)))
              rw [hra]
              exact va_sld hx hbc g1 g2 g3 hR.2.2.1 h.1 (mdec_at hd) hgo
          · exact h.elim
        · split at h
          · rename_i N hsh
            exact mW_iald hy hR (mdec_at hd) hsh h.1 (hi _ _ _ _ _ _ h.2 ad H locs ls hag hn0 hR)
          · exact h.elim
      · exact h.elim
    | iastore =>
      rw [bu_iastore] at h
      obtain ⟨hd, hk⟩ := mit_gen hc
      have e := of_decide_eq_true hk
      subst e
      split at h
      · intro ad H locs ls hag hn0 hR
        split at h
        · rename_i N hsh
          exact mW_iast hy hR (mdec_at hd) hsh h.1 (fun H1 locs1 hR1 => hi _ _ _ _ _ _ h.2 ad H1 locs1 ls hag hn0 hR1)
        · exact h.elim
      · exact h.elim
    | laload =>
      rw [bu_laload] at h
      obtain ⟨hd, hk⟩ := mit_gen hc
      have e := of_decide_eq_true hk
      subst e
      split at h
      · intro ad H locs ls hag hn0 hR
        split at h
        · rename_i N hsh
          exact mW_lald hy hR (mdec_at hd) hsh h.1 (hi _ _ _ _ _ _ h.2 ad H locs ls hag hn0 hR)
        · exact h.elim
      · exact h.elim
    | lastore =>
      rw [bu_lastore] at h
      obtain ⟨hd, hk⟩ := mit_gen hc
      have e := of_decide_eq_true hk
      subst e
      split at h
      · intro ad H locs ls hag hn0 hR
        split at h
        · rename_i N hsh
          exact mW_last hy hR (mdec_at hd) hsh h.1 h.2.1 (fun H1 locs1 hR1 => hi _ _ _ _ _ _ h.2.2 ad H1 locs1 ls hag hn0 hR1)
        · exact h.elim
      · exact h.elim
    | aaload =>
      rw [bu_aaload] at h
      obtain ⟨hd, hk⟩ := mit_gen hc
      have e := of_decide_eq_true hk
      subst e
      split at h
      · intro ad H locs ls hag hn0 hR
        split at h
        · rename_i rs hsh
          obtain ⟨h1, q, h2, h3⟩ := h
          exact mW_aald hy hR (mdec_at hd) hsh h1 h2 (hi _ _ _ _ _ _ h3 ad H locs ls hag hn0 hR)
        · exact h.elim
      · exact h.elim
    | aastore =>
      rw [bu_aastore] at h
      obtain ⟨hd, hk⟩ := mit_gen hc
      have e := of_decide_eq_true hk
      subst e
      split at h
      · intro ad H locs ls hag hn0 hR
        split at h
        · rename_i rs fs hsh hsq
          split at h
          · exact mW_aast hy hR (mdec_at hd) hsh hsq h.1 (fun H1 locs1 hR1 => hi _ _ _ _ _ _ h.2 ad H1 locs1 ls hag (by rw [mse_eq, List.length_set]; exact hn0) hR1)
          · exact h.elim
        · exact h.elim
      · exact h.elim
    | arraylength =>
      rw [bu_arraylength] at h
      obtain ⟨hd, hk⟩ := mit_gen hc
      have e := of_decide_eq_true hk
      subst e
      split at h
      · rename_i r rest
        intro ad H locs ls hag hn0 hR
        split at h
        · rename_i hr9
          have hr9 := Nat.le_of_ble_eq_true hr9
          have hra : ad r = adc r := by rw [hag r (Or.inr hr9), had r hr9]
          split at h
          · split at h
            · rename_i N f
              have hgo := hi _ _ _ _ _ _ h ad H locs ls hag hn0 hR
              obtain ⟨g1, g2, g3⟩ := hscr N f rfl
              show W p l e R s m args below meth c H locs cl sl WQ (F0 m pc ls (.ref (ad 1201) :: rest.map (mvm ad)))
              rw [hra]
              exact va_slen hx hbc g1 g2 g3 hR.2.2.1 (mdec_at hd) hgo
            · exact h.elim
          · exact h.elim
        · split at h
          · rename_i N hsh
            exact mW_alenI hy hR (mdec_at hd) hsh (hi _ _ _ _ _ _ h ad H locs ls hag hn0 hR)
          · rename_i rs hsh
            exact mW_alenR hy hR (mdec_at hd) hsh (hi _ _ _ _ _ _ h ad H locs ls hag hn0 hR)
          · exact h.elim
      · exact h.elim
    | newarray t9 =>
      rw [bu_newarray] at h
      obtain ⟨hd, hk⟩ := mit_gen hc
      have e := of_decide_eq_true hk
      subst e
      split at h
      · rename_i x rest
        split at h
        · rename_i hb9
          obtain ⟨hb1, hb2⟩ := mit_gen hb9
          obtain ⟨o1, o2⟩ := mit_gen hb1
          obtain ⟨o3, hb2⟩ := mit_gen hb2
          obtain ⟨o4, hb2⟩ := mit_gen hb2
          obtain ⟨o5, hb2⟩ := mit_gen hb2
          obtain ⟨o6, o7⟩ := mit_gen hb2
          have o4 := Nat.le_of_ble_eq_true o4
          have o5 := Nat.le_of_ble_eq_true o5
          have o6 := Nat.le_of_ble_eq_true o6
          have o7 := Nat.le_of_ble_eq_true o7
          intro ad H locs ls hag hn0 hR
          have hgo : ∀ (sx : mSh) (q : Nat) (H1 : Heap), bx C mi msp scr mc ms rb J Q is L (.ref sh.length :: rest) (sh ++ [sx]) (mnew σ sh.length) (cl + 1) (sl + a) → mRl s D cy A nL (va_up ad sh.length q) L (sh ++ [sx]) (mnew σ sh.length) H1 locs ls → W p l e R s m args below meth c H1 locs (cl + 1) (sl + a) WQ (F0 m (pc + 2) ls (.ref q :: rest.map (mvm ad))) := by
            intro sx q H1 hb hR1
            have := hi _ _ _ _ _ _ hb (va_up ad sh.length q) H1 locs ls (hag.up (mup_ok o4) hn0) (by rw [List.length_append]; exact Nat.le_trans hn0 (Nat.le_add_right _ _)) hR1
            rw [List.map_cons, mvm_ok (mup_ok o4) o1] at this
            have e9 : mvm (va_up ad sh.length q) (.ref sh.length) = .ref q := by simp only [mvm, va_up, if_pos]
            rw [e9] at this
            exact this
          split at h
          · obtain ⟨rfl, h⟩ := h
            exact mW_newI hy hR (mdec_at hd) (hts _ kM_arrI) o2 o3 o4 o7 (by rw [hRc]; exact o5) (by rw [hRs]; exact o6) (fun q H1 hR1 => hgo _ q H1 h hR1)
          · obtain ⟨rfl, h⟩ := h
            exact mW_newJ hy hR (mdec_at hd) (hts _ kM_arrJ) o2 o3 o4 o7 (by rw [hRc]; exact o5) (by rw [hRs]; exact o6) (fun q H1 hR1 => hgo _ q H1 h hR1)
          · exact h.elim
        · exact h.elim
      · exact h.elim
    | anewarray k =>
      rw [bu_anewarray] at h
      obtain ⟨hd, hk⟩ := mit_gen hc
      obtain ⟨h1, h2⟩ := mit_gen hk
      have e := of_decide_eq_true h1
      subst e
      split at h
      · rename_i x rest
        split at h
        · rename_i hb9
          obtain ⟨hb1, hb2⟩ := mit_gen hb9
          obtain ⟨o1, o2⟩ := mit_gen hb1
          obtain ⟨o3, hb2⟩ := mit_gen hb2
          obtain ⟨o4, hb2⟩ := mit_gen hb2
          obtain ⟨o5, hb2⟩ := mit_gen hb2
          obtain ⟨o6, o7⟩ := mit_gen hb2
          have o4 := Nat.le_of_ble_eq_true o4
          have o5 := Nat.le_of_ble_eq_true o5
          have o6 := Nat.le_of_ble_eq_true o6
          have o7 := Nat.le_of_ble_eq_true o7
          intro ad H locs ls hag hn0 hR
          obtain ⟨rfl, h⟩ := h
          refine mW_newQ hy hR (mdec_at hd) h2 hE.2.2.2.2.2.2.2.2.1 o2 o3 o4 o7 (by rw [hRc]; exact o5) (by rw [hRs]; exact o6) (fun q H1 hR1 => ?_)
          have := hi _ _ _ _ _ _ h (va_up ad sh.length q) H1 locs ls (hag.up (mup_ok o4) hn0) (by rw [List.length_append]; exact Nat.le_trans hn0 (Nat.le_add_right _ _)) hR1
          rw [List.map_cons, mvm_ok (mup_ok o4) o1] at this
          have e9 : mvm (va_up ad sh.length q) (.ref sh.length) = .ref q := by simp only [mvm, va_up, if_pos]
          rw [e9] at this
          exact this
        · exact h.elim
      · exact h.elim
    | new k =>
      obtain ⟨hd, hk⟩ := mit_gen hc
      obtain ⟨h1, h2⟩ := mit_gen hk
      have e := of_decide_eq_true h1
      subst e
      match d, h, h2, hc, hk with
      | 0, h, h2, hc, hk =>
        rw [bu_new0] at h
        split at h
        · rename_i hb9
          obtain ⟨hb1, hb2⟩ := mit_gen hb9
          obtain ⟨o1, o2⟩ := mit_gen hb1
          obtain ⟨o3, hb2⟩ := mit_gen hb2
          obtain ⟨o4, hb2⟩ := mit_gen hb2
          obtain ⟨o5, o6⟩ := mit_gen hb2
          have o4 := Nat.le_of_ble_eq_true o4
          have o5 := Nat.le_of_ble_eq_true o5
          have o6 := Nat.le_of_ble_eq_true o6
          intro ad H locs ls hag hn0 hR
          have h7 := h
          match ps, h2 with
          | [(w1, w2)], h2 =>
            refine mW_new hy hR (mdec_at hd) h2 o2 o3 o4 (by rw [hRc]; exact o5) (by rw [hRs]; exact o6) (fun q H1 hR1 => ?_)
            have := hi _ _ _ _ _ _ h7 (va_up ad sh.length q) H1 locs ls (hag.up (mup_ok o4) hn0) (by rw [List.length_append]; exact Nat.le_trans hn0 (Nat.le_add_right _ _)) hR1
            rw [List.map_cons, mvm_ok (mup_ok o4) o1] at this
            have e9 : mvm (va_up ad sh.length q) (.ref sh.length) = .ref q := by simp only [mvm, va_up, if_pos]
            rw [e9] at this
            exact this
          | [], h2 => exact nomatch h2
          | _ :: _ :: _, h2 => exact nomatch h2
        · exact h.elim
      | 9, h, h2, hc, hk =>
        rw [bu_new9] at h
        split at h
        · rename_i hb9
          obtain ⟨o1, hb2⟩ := mit_gen hb9
          obtain ⟨o5, o6⟩ := mit_gen hb2
          exact hth k w a ps pc L st sh σ cl sl (mdec_at hd) h2 (Nat.le_of_ble_eq_true o1) (Nat.le_of_ble_eq_true o5) (Nat.le_of_ble_eq_true o6) h
        · exact h.elim
      | 1, h, _, _, _ => exact h.elim
      | 2, h, _, _, _ => exact h.elim
      | 3, h, _, _, _ => exact h.elim
      | 4, h, _, _, _ => exact h.elim
      | 5, h, _, _, _ => exact h.elim
      | 6, h, _, _, _ => exact h.elim
      | 7, h, _, _, _ => exact h.elim
      | 8, h, _, _, _ => exact h.elim
      | _ + 10, h, _, _, _ => exact h.elim
    | ireturn =>
      rw [bu_ireturn] at h
      obtain ⟨hd, hk⟩ := mit_gen hc
      have e := of_decide_eq_true hk
      subst e
      split at h
      · rename_i x
        split at h
        · rename_i hb9
          obtain ⟨o5, o6⟩ := mit_gen hb9
          split at h
          · exact hri x pc L sh σ cl sl (mdec_at hd) (fun _ => h.1) (Nat.le_of_ble_eq_true o5) (Nat.le_of_ble_eq_true o6) h.2
          · exact hri x pc L sh σ cl sl (mdec_at hd) (fun z => by cases z) (Nat.le_of_ble_eq_true o5) (Nat.le_of_ble_eq_true o6) h
        · exact h.elim
      · exact h.elim
    | lreturn =>
      rw [bu_lreturn] at h
      obtain ⟨hd, hk⟩ := mit_gen hc
      have e := of_decide_eq_true hk
      subst e
      split at h
      · rename_i x
        split at h
        · rename_i hb9
          obtain ⟨o5, o6⟩ := mit_gen hb9
          exact hrl x pc L sh σ cl sl (mdec_at hd) (Nat.le_of_ble_eq_true o5) (Nat.le_of_ble_eq_true o6) h
        · exact h.elim
      · exact h.elim
    | return_ =>
      rw [bu_return_] at h
      obtain ⟨hd, hk⟩ := mit_gen hc
      have e := of_decide_eq_true hk
      subst e
      split at h
      · split at h
        · rename_i hb9
          obtain ⟨o5, o6⟩ := mit_gen hb9
          exact hrv pc L sh σ cl sl (mdec_at hd) (Nat.le_of_ble_eq_true o5) (Nat.le_of_ble_eq_true o6) h
        · exact h.elim
      · exact h.elim
    | invokevirtual k =>
      obtain ⟨hd, hk⟩ := mit_gen hc
      obtain ⟨h1, h2⟩ := mit_gen hk
      have e := of_decide_eq_true h1
      subst e
      match d, h, h2 with
      | 0, h, h2 =>
        obtain ⟨g, g6⟩ := mit_gen h2
        obtain ⟨g1, g⟩ := mit_gen g
        obtain ⟨g2, g⟩ := mit_gen g
        obtain ⟨g3, g4⟩ := mit_gen g
        have g2 := of_decide_eq_true g2
        have g3 := of_decide_eq_true g3
        rw [bu_invokevirtual0] at h
        split at h
        · rename_i hb9
          obtain ⟨o1, hb9⟩ := mit_gen hb9
          obtain ⟨o2, hb9⟩ := mit_gen hb9
          obtain ⟨ov, ol⟩ := mit_gen o2
          obtain ⟨o3, hb9⟩ := mit_gen hb9
          obtain ⟨o4, o5⟩ := mit_gen hb9
          exact mW_call (msp := msp) hy hE hAS hS0 had hRf hRl hRc hRs htb hC hcls htab hJ hxo (mdec_at hd) (Or.inl ⟨rfl, g2, g3, mwat_in g4, o1⟩) (Nat.le_of_ble_eq_true g1) g6 (Nat.le_of_ble_eq_true (mit_gen o3).1) (Nat.le_of_ble_eq_true (mit_gen o3).2) (Nat.le_of_ble_eq_true o4) (Nat.le_of_ble_eq_true o5) (fun v sh2 σ2 hh9 => hi _ _ _ _ _ _ hh9) (Or.inl ⟨ov, ol, h⟩)
        · exact h.elim
      | 1, h, h2 =>
        obtain ⟨g, g6⟩ := mit_gen h2
        obtain ⟨g1, g⟩ := mit_gen g
        obtain ⟨g2, g⟩ := mit_gen g
        obtain ⟨g3, g4⟩ := mit_gen g
        have g2 := of_decide_eq_true g2
        have g3 := of_decide_eq_true g3
        rw [bu_invokevirtual1] at h
        split at h
        · rename_i hb9
          obtain ⟨o1, hb9⟩ := mit_gen hb9
          obtain ⟨o2, hb9⟩ := mit_gen hb9
          obtain ⟨o3, hb9⟩ := mit_gen hb9
          obtain ⟨o4, o5⟩ := mit_gen hb9
          split at h
          · rename_i as2 hrv9
            exact mW_call (msp := msp) hy hE hAS hS0 had hRf hRl hRc hRs htb hC hcls htab hJ hxo (mdec_at hd) (Or.inl ⟨rfl, g2, g3, mwat_in g4, o1⟩) (Nat.le_of_ble_eq_true g1) g6 (Nat.le_of_ble_eq_true (mit_gen o3).1) (Nat.le_of_ble_eq_true (mit_gen o3).2) (Nat.le_of_ble_eq_true o4) (Nat.le_of_ble_eq_true o5) (fun v sh2 σ2 hh9 => hi _ _ _ _ _ _ hh9) (Or.inr ⟨as2, o2, hrv9, h⟩)
          · exact h.elim
        · exact h.elim
      | 7, h, h2 =>
        rw [bu_invokevirtual7] at h
        split at h
        · rename_i r rest hz9
          obtain ⟨i9, o1, o2, o3, o4, e9, h5⟩ := mslen_at h
          subst e9
          intro ad H locs ls hag hn0 hR
          have hra : ad (1000 + i9) = adc (1000 + i9) := by rw [hag _ (Or.inr (Nat.le_add_right _ _)), had _ (Nat.le_add_right _ _)]
          show W p l e R s m args below meth c H locs cl sl WQ (F0 m pc ls (.ref (ad (1000 + i9)) :: rest.map (mvm ad)))
          rw [hra]
          exact mW_slen hy hR hE hAS hRf hRl (by rw [hRc]; exact o3) (by rw [hRs]; exact o4) o1 h2 (mdec_at hd) (by rw [mcat_eq]; exact o2) (hi _ _ _ _ _ _ h5 ad H locs ls hag hn0 hR)
        · exact h.elim
      | 8, h, h2 =>
        rw [bu_invokevirtual8] at h
        split at h
        · rename_i x r rest hz9
          obtain ⟨i9, z9, o1, o2, o3, o4, e9, e8, h8, h5⟩ := mschr_at h
          subst e9 e8
          intro ad H locs ls hag hn0 hR
          have hra : ad (1000 + i9) = adc (1000 + i9) := by rw [hag _ (Or.inr (Nat.le_add_right _ _)), had _ (Nat.le_add_right _ _)]
          show W p l e R s m args below meth c H locs cl sl WQ (F0 m pc ls (.int (nI z9) :: .ref (ad (1000 + i9)) :: rest.map (mvm ad)))
          rw [hra]
          exact mW_char0 hy hR hE hAS hRf hRl (by rw [hRc]; exact o3) (by rw [hRs]; exact o4) o1 h2 (mdec_at hd) (by rw [mcat_eq]; exact o2) h8 (hi _ _ _ _ _ _ h5 ad H locs ls hag hn0 hR)
        · exact h.elim
      | 2, h, _ => exact h.elim
      | 3, h, _ => exact h.elim
      | 4, h, _ => exact h.elim
      | 5, h, _ => exact h.elim
      | 6, h, _ => exact h.elim
      | _ + 9, h, _ => exact h.elim
    | invokestatic k =>
      obtain ⟨hd, hk⟩ := mit_gen hc
      obtain ⟨h1, h2⟩ := mit_gen hk
      have e := of_decide_eq_true h1
      subst e
      match d, h, h2 with
      | 0, h, h2 =>
        obtain ⟨g, g6⟩ := mit_gen h2
        obtain ⟨g1, g⟩ := mit_gen g
        obtain ⟨g2, g⟩ := mit_gen g
        obtain ⟨g3, g4⟩ := mit_gen g
        have g2 := of_decide_eq_true g2
        have g3 := of_decide_eq_true g3
        rw [bu_invokestatic0] at h
        split at h
        · rename_i hb9
          obtain ⟨o2, hb9⟩ := mit_gen hb9
          obtain ⟨o3, hb9⟩ := mit_gen hb9
          obtain ⟨o4, o5⟩ := mit_gen hb9
          obtain ⟨ov, ol⟩ := mit_gen o2
          exact mW_call (msp := msp) hy hE hAS hS0 had hRf hRl hRc hRs htb hC hcls htab hJ hxo (mdec_at hd) (Or.inr (Or.inl ⟨rfl, g2, g3, mwat_in g4⟩)) (Nat.le_of_ble_eq_true g1) g6 (Nat.le_of_ble_eq_true (mit_gen o3).1) (Nat.le_of_ble_eq_true (mit_gen o3).2) (Nat.le_of_ble_eq_true o4) (Nat.le_of_ble_eq_true o5) (fun v sh2 σ2 hh9 => hi _ _ _ _ _ _ hh9) (Or.inl ⟨ov, ol, h⟩)
        · exact h.elim
      | 1, h, h2 =>
        obtain ⟨g, g6⟩ := mit_gen h2
        obtain ⟨g1, g⟩ := mit_gen g
        obtain ⟨g2, g⟩ := mit_gen g
        obtain ⟨g3, g4⟩ := mit_gen g
        have g2 := of_decide_eq_true g2
        have g3 := of_decide_eq_true g3
        rw [bu_invokestatic1] at h
        split at h
        · rename_i hb9
          obtain ⟨o2, hb9⟩ := mit_gen hb9
          obtain ⟨o3, hb9⟩ := mit_gen hb9
          obtain ⟨o4, o5⟩ := mit_gen hb9
          split at h
          · rename_i as2 hrv9
            exact mW_call (msp := msp) hy hE hAS hS0 had hRf hRl hRc hRs htb hC hcls htab hJ hxo (mdec_at hd) (Or.inr (Or.inl ⟨rfl, g2, g3, mwat_in g4⟩)) (Nat.le_of_ble_eq_true g1) g6 (Nat.le_of_ble_eq_true (mit_gen o3).1) (Nat.le_of_ble_eq_true (mit_gen o3).2) (Nat.le_of_ble_eq_true o4) (Nat.le_of_ble_eq_true o5) (fun v sh2 σ2 hh9 => hi _ _ _ _ _ _ hh9) (Or.inr ⟨as2, o2, hrv9, h⟩)
          · exact h.elim
        · exact h.elim
      | 2, h, h2 =>
        rw [bu_invokestatic2] at h
        split at h
        · split at h
          · rename_i hb9
            intro ad H locs ls hag hn0 hR
            exact va_mmax hx hbc (hml.trans hR.2.2.2.1.symm) hown (mword hts h2) (hts _ kM_static_max) (hts _ kM_init) (hts _ kM_code_max) (by omega) (by rw [mcat_eq]; have := Nat.le_of_ble_eq_true (mit_gen hb9).1; omega) (by rw [hRc]; exact Nat.le_of_ble_eq_true (mit_gen (mit_gen hb9).2).1) (by rw [hRs]; exact Nat.le_of_ble_eq_true (mit_gen (mit_gen hb9).2).2) (mdec_at hd) (hi _ _ _ _ _ _ h ad H locs ls hag hn0 hR)
          · exact h.elim
        · exact h.elim
      | 3, h, h2 =>
        rw [bu_invokestatic3] at h
        split at h
        · split at h
          · rename_i hb9
            intro ad H locs ls hag hn0 hR
            rw [mmin_eq] at h; exact va_mmin hx hbc (hml.trans hR.2.2.2.1.symm) hown (mword hts h2) (hts _ kM_static_min) (hts _ kM_init) (hts _ kM_code_min) (by omega) (by rw [mcat_eq]; have := Nat.le_of_ble_eq_true (mit_gen hb9).1; omega) (by rw [hRc]; exact Nat.le_of_ble_eq_true (mit_gen (mit_gen hb9).2).1) (by rw [hRs]; exact Nat.le_of_ble_eq_true (mit_gen (mit_gen hb9).2).2) (mdec_at hd) (hi _ _ _ _ _ _ h ad H locs ls hag hn0 hR)
          · exact h.elim
        · exact h.elim
      | 4, h, h2 =>
        rw [bu_invokestatic4] at h
        split at h
        · split at h
          · rename_i hb9
            intro ad H locs ls hag hn0 hR
            exact va_mabs hx hbc (hml.trans hR.2.2.2.1.symm) hown (mword hts h2) (hts _ kM_static_abs) (hts _ kM_init) (hts _ kM_code_abs) (by omega) (by rw [mcat_eq]; have := Nat.le_of_ble_eq_true (mit_gen hb9).1; omega) (by rw [hRc]; exact Nat.le_of_ble_eq_true (mit_gen (mit_gen hb9).2).1) (by rw [hRs]; exact Nat.le_of_ble_eq_true (mit_gen (mit_gen hb9).2).2) (mdec_at hd) (hi _ _ _ _ _ _ h ad H locs ls hag hn0 hR)
          · exact h.elim
        · exact h.elim
      | 5, h, h2 =>
        rw [bu_invokestatic5] at h
        split at h
        · split at h
          · rename_i N M hsr hsq
            split at h
            · rename_i hb9
              intro ad H locs ls hag hn0 hR
              exact mW_copy hy hR (mdec_at hd) h2 kM_cp1 kM_cp2 kM_cp3 hsr hsq h.1 (by omega) (by rw [mcat_eq]; have := Nat.le_of_ble_eq_true (mit_gen hb9).1; have hz : nativeFrameWords "java/lang/System" "arraycopy" 5 + 11 ≤ 100 := (by decide +kernel); omega) (fun H1 locs1 hR1 => hi _ _ _ _ _ _ h.2 ad H1 locs1 ls hag hn0 hR1)
            · exact h.elim
          · exact h.elim
        · exact h.elim
      | _ + 6, h, _ => exact h.elim
    | invokespecial k =>
      obtain ⟨hd, hk⟩ := mit_gen hc
      obtain ⟨h1, h2⟩ := mit_gen hk
      have e := of_decide_eq_true h1
      subst e
      match d, h, h2 with
      | 0, h, h2 =>
        obtain ⟨g, g6⟩ := mit_gen h2
        obtain ⟨g1, g⟩ := mit_gen g
        obtain ⟨g2, g⟩ := mit_gen g
        obtain ⟨g3, g4⟩ := mit_gen g
        have g2 := of_decide_eq_true g2
        have g3 := of_decide_eq_true g3
        rw [bu_invokespecial0] at h
        split at h
        · rename_i hb9
          obtain ⟨o1, hb9⟩ := mit_gen hb9
          have hlk9 : Cond.methodLink own k (tb a).1.1 ∈ gtbl ∨ (own, k, (tb a).1.1) ∈ mnst := by
            rw [Bool.or_eq_true] at g4
            rcases g4 with z | z
            · exact Or.inl (mwat_in z)
            · exact Or.inr (of_decide_eq_true z)
          obtain ⟨o2, hb9⟩ := mit_gen hb9
          obtain ⟨o3, hb9⟩ := mit_gen hb9
          obtain ⟨o4, o5⟩ := mit_gen hb9
          obtain ⟨ov, ol⟩ := mit_gen o2
          exact mW_call (msp := msp) hy hE hAS hS0 had hRf hRl hRc hRs htb hC hcls htab hJ hxo (mdec_at hd) (Or.inr (Or.inr ⟨rfl, g2, g3, hlk9, o1⟩)) (Nat.le_of_ble_eq_true g1) g6 (Nat.le_of_ble_eq_true (mit_gen o3).1) (Nat.le_of_ble_eq_true (mit_gen o3).2) (Nat.le_of_ble_eq_true o4) (Nat.le_of_ble_eq_true o5) (fun v sh2 σ2 hh9 => hi _ _ _ _ _ _ hh9) (Or.inl ⟨ov, ol, h⟩)
        · exact h.elim
      | 6, h, h2 =>
        rw [bu_invokespecial6] at h
        split at h
        · split at h
          · rename_i hb9
            intro ad H locs ls hag hn0 hR
            exact W.objInit hx hbc hown (mword hts h2) (hts _ kM_obj) (hts _ kM_objc) rfl (hR.2.2.2.1.trans hml.symm) rfl (mdec_at hd) (by omega) (by have e8 := mcat_eq ad ‹List Value›; have := Nat.le_of_ble_eq_true (mit_gen hb9).1; show 2 * 0 + _ + 12 ≤ _; rw [mcat_eq]; omega) (hi _ _ _ _ _ _ h ad H locs ls hag hn0 hR)
          · exact h.elim
        · exact h.elim
      | 1, h, _ => exact h.elim
      | 2, h, _ => exact h.elim
      | 3, h, _ => exact h.elim
      | 4, h, _ => exact h.elim
      | 5, h, _ => exact h.elim
      | _ + 7, h, _ => exact h.elim
    | _ =>
      obtain ⟨hd, hk⟩ := mit_gen hc
      exact mW_gen (w := w) (a := a) (d := d) (B := fun st2 => bx C mi msp scr mc ms rb J Q is L st2 sh σ cl sl) hy hE had hd hk h (fun st2 => hi _ _ _ _ _ _)
end MBM
end
section
/-! METHODS: what mCT says of a method holds of it -/
/-- the locals at a method's entry -/
def ment : List Value → mLc
  | [] => []
  | .long x :: l => some (.long x) :: none :: ment l
  | .double x :: l => some (.double x) :: none :: ment l
  | v :: l => some v :: ment l
def mpad (n : Nat) (L : mLc) : mLc := L ++ List.replicate (n - L.length) none
def mlk : List (Nat × List mIt) → Nat → List mIt
  | [], _ => []
  | (k, is) :: l, n => match Nat.beq k n with | true => is | false => mlk l n
/-- whether an answer is of the method's kind -/
def mtyQ (ret : Option FieldType) (Q : mPst) : mPst := fun o sh σ => match o with
  | .inr _ => Q o sh σ
  | .inl none => (match ret with | none => Q o sh σ | _ => False)
  | .inl (some (.int _)) => (match ret with | some .int => Q o sh σ | some .boolean => Q o sh σ | _ => False)
  | .inl (some (.long _)) => (match ret with | some .long => Q o sh σ | _ => False)
  | _ => False
def mrbk : Option FieldType → Bool
  | some .boolean => true
  | _ => false
section MCTd
variable (tb : Nat → mTe) (cd : Nat → List (Nat × List mIt)) (mi : Nat → Nat × Nat × Nat) (msp : Nat → List mSh)
def mCT : Nat → mCt
  | 0, _, _, _, _, _ => False
  | d + 1, j, as, sh, σ, Q => Nat.ble (mcat as) (tb j).1.2.2.1 = true ∧ ∀ X : mJt, (∀ (l : Nat) (L : mLc) (st : List Value) (sh2 : List mSh) (σ2 : mSg) (c n : Nat), bx (mCT d) mi msp none (mi j).1 (mi j).2.1 (mrbk (tb j).1.2.2.2.1) X (mtyQ (tb j).1.2.2.2.1 Q) (mlk (cd j) l) L st sh2 σ2 c n → X l L st sh2 σ2 c n) → X 0 (mpad (tb j).1.2.2.1 (ment as)) [] sh σ 0 0
end MCTd
/-- what is checked of a method: its entry, its blocks -/
def mjb (tb : Nat → mTe) (NM : Nat) (q : mTe) (bs : List (Nat × List mIt)) : Bool := mteb q && (plainName q.1.1.cls && ((decide (q.1.1.cls ≠ "DustYard") || decide (q.1.2.2.2.2 = [])) && bs.all (fun b => mchk tb NM q.1.1.cls q.1.2.1 q.1.2.2.1 q.1.2.2.2.2 (decide (q.1.1.name = "<init>")) b.2 b.1)))
theorem mlk_mem : ∀ (bs : List (Nat × List mIt)) (l : Nat), mlk bs l = [] ∨ (l, mlk bs l) ∈ bs
  | [], l => Or.inl rfl
  | (k, is) :: bs, l => by
    simp only [mlk]
    cases hk : Nat.beq k l with
    | true =>
      have e := Nat.eq_of_beq_eq_true hk
      subst e
      exact Or.inr (List.mem_cons_self)
    | false =>
      rcases mlk_mem bs l with z | z
      · exact Or.inl z
      · exact Or.inr (List.mem_cons_of_mem _ z)
theorem ment_args (ad : Nat → Nat) : ∀ (as : List Value) (k i : Nat) (v : Value), (ment as)[i]? = some (some v) → (k + i, mvm ad v) ∈ lv_args k (as.map (mvm ad))
  | [], k, i, v, h => by simp [ment] at h
  | a :: as, k, i, v, h => by
    have one : ∀ {a : Value}, (mvm ad a).category = 1 → ment (a :: as) = some a :: ment as → (ment (a :: as))[i]? = some (some v) → (k + i, mvm ad v) ∈ lv_args k ((a :: as).map (mvm ad)) := by
      intro a hc he h
      rw [he] at h
      rw [List.map_cons, lv_args, if_neg (by rw [hc]; decide)]
      cases i with
      | zero => rw [List.getElem?_cons_zero] at h; cases h; exact List.mem_cons_self
      | succ i =>
        rw [List.getElem?_cons_succ] at h
        have := ment_args ad as (k + 1) i v h
        rw [show k + 1 + i = k + (i + 1) by omega] at this
        exact List.mem_cons_of_mem _ this
    have two : ∀ {a : Value}, (mvm ad a).category = 2 → ment (a :: as) = some a :: none :: ment as → (ment (a :: as))[i]? = some (some v) → (k + i, mvm ad v) ∈ lv_args k ((a :: as).map (mvm ad)) := by
      intro a hc he h
      rw [he] at h
      rw [List.map_cons, lv_args, if_pos hc]
      cases i with
      | zero => rw [List.getElem?_cons_zero] at h; cases h; exact List.mem_cons_self
      | succ i =>
        cases i with
        | zero => simp at h
        | succ i =>
          rw [List.getElem?_cons_succ, List.getElem?_cons_succ] at h
          have := ment_args ad as (k + 2) i v h
          rw [show k + 2 + i = k + (i + 1 + 1) by omega] at this
          exact List.mem_cons_of_mem _ this
    cases a with
    | long x => exact two rfl rfl h
    | double x => exact two rfl rfl h
    | _ => exact one rfl rfl h
theorem lg_sl_cat (ad : Nat → Nat) : ∀ as : List Value, (lg_sl (as.map (mvm ad))).length = mcat as
  | [] => rfl
  | v :: l => by
    have ih := lg_sl_cat ad l
    unfold lg_sl at ih ⊢
    rw [List.map_cons, List.flatMap_cons, List.length_append, ih]
    cases v <;> rfl
theorem mpad_at {n i : Nat} {L : mLc} {v : Value} (h : (mpad n L)[i]? = some (some v)) : L[i]? = some (some v) := by
  unfold mpad at h
  rw [List.getElem?_append] at h
  split at h
  · exact h
  · rw [List.getElem?_replicate] at h
    split at h <;> cases h
theorem mLR_entry {ad : Nat → Nat} {as : List Value} {n : Nat} (h : mcat as ≤ n) : mLR ad (lg_sl (as.map (mvm ad)) ++ List.replicate (n - (lg_sl (as.map (mvm ad))).length) Slot.unset).toArray n (mpad n (ment as)) := by
  obtain ⟨h1, h2, h3⟩ := lv_entry (as.map (mvm ad)) (n := n) (by rw [lg_sl_cat]; exact h)
  refine ⟨h1, h2, fun i v hv => ?_⟩
  have := ment_args ad as 0 i v (mpad_at hv)
  rw [Nat.zero_add] at this
  exact h3 _ this
theorem mthb_at {own : String} {cc : ByteArray} {pc ik w a : Nat} {ps : List (Nat × Nat)} (h : mthb own cc pc ik w a ps = true) : ∃ (is wide w2 txt : Nat) (X : String) (ic lw : Nat), own = "DustYard" ∧ mnx mxl a = some X ∧ mnx mxc a = some ic ∧ mwat w (.classLink "DustYard" ik X) = true ∧ mwat w2 (.initialized X) = true ∧ (∃ tx, ("DustYard", is, txt, tx) ∈ mtx) ∧ decode cc (pc + 3) = .ok (.dup, 1) ∧ ((decode cc (pc + 4) = .ok (.ldc is, 2) ∧ lw = 2) ∨ (decode cc (pc + 4) = .ok (.ldc_w is, 3) ∧ lw = 3)) ∧ decode cc (pc + 4 + lw) = .ok (.invokespecial ic, 3) ∧ decode cc (pc + 4 + lw + 3) = .ok (.athrow, 1) := by
  unfold mthb at h
  split at h
  · rename_i is wide w2 txt
    obtain ⟨h1, h⟩ := mit_gen h
    have h1 := of_decide_eq_true h1
    subst h1
    split at h
    · rename_i X ic hX hic
      obtain ⟨h2, h⟩ := mit_gen h
      obtain ⟨h3, h⟩ := mit_gen h
      obtain ⟨h4, h⟩ := mit_gen h
      obtain ⟨h5, h⟩ := mit_gen h
      obtain ⟨h6, h⟩ := mit_gen h
      obtain ⟨h7, h8⟩ := mit_gen h
      cases wide with
      | zero => exact ⟨is, 0, w2, txt, X, ic, 2, rfl, hX, hic, h2, h3, mtxb_at h4, mdec_at h5, Or.inl ⟨mdec_at h6, rfl⟩, mdec_at h7, mdec_at h8⟩
      | succ n => exact ⟨is, n + 1, w2, txt, X, ic, 3, rfl, hX, hic, h2, h3, mtxb_at h4, mdec_at h5, Or.inr ⟨mdec_at h6, rfl⟩, mdec_at h7, mdec_at h8⟩
    · cases h
  · cases h
end
section
/-! METHODS: the theorem -/
section MSO
variable {tb : Nat → mTe} {cd : Nat → List (Nat × List mIt)} {mi : Nat → Nat × Nat × Nat} {msp : Nat → List mSh} {NM : Nat}
variable {l : Launch} {D : va_G} {cy : mCy} {S0 : Nat} {adc adV : Nat → Nat}
set_option maxHeartbeats 4000000 in
theorem mCT_sound (hfl : l.stackTraces = false) (hjb : ∀ j, j < NM → mjb tb NM (tb j) (cd j) = true) (hcls : ∀ j, j < NM → (tb j).2.1 = 0 → (mi j).2.2 = (tb j).2.2.2.1) : ∀ (d j : Nat) (as : List Value) (sh : List mSh) (σ : mSg) (Q : mPst), j < NM → mCT tb cd mi msp d j as sh σ Q → mMet l D cy S0 adc adV (tb j).1 d (mi j).1 (mi j).2.1 as sh σ Q := by
  intro d
  induction d with
  | zero => intro j as sh σ Q hj h; exact h.elim
  | succ d ih =>
    intro j as sh σ Q hj h
    obtain ⟨hcat, h⟩ := h
    have hcat := Nat.le_of_ble_eq_true hcat
    have hb := hjb j hj
    simp only [mjb, Bool.and_eq_true, List.all_eq_true] at hb
    obtain ⟨hte, hpl, hnt, hbs⟩ := hb
    obtain ⟨hmm, hcw, hini⟩ := mteb_at hte
    intro ad sz hadc
    have core : ∀ (p : Program) (e : Env) (s : State) (m : MethodId) (args : Array Value) (below : List Frame) (meth : Method) (c : Code) (s₁ : State), BodyLoose p l (tb j).1.1 (headSpec (mcw (tb j).1 :: gtbl) (mRm (d + 1) (mi j).1 (mi j).2.1)) (tb j).1.2.1 (tb j).1.2.2.1 (tb j).1.2.2.2.1 e s m args below meth c s₁ → c.maxLocals = (tb j).1.2.2.1 → c.exceptionTable.toList = tableOf (tb j).1.2.2.2.2 → mPr D cy S0 adc adV as ad sh σ sz args s →
        W p l e (headSpec (mcw (tb j).1 :: gtbl) (mRm (d + 1) (mi j).1 (mi j).2.1)).room s m args below meth c s.heap [] 0 0 (vx_MQ below (mQc D cy (va_A (mwd cy ad σ 0 sh) sz) sh.length ad Q) (mXc D cy (va_A (mwd cy ad σ 0 sh) sz) sh.length ad Q) args s (mi j).1 (mi j).2.1 (va_A (mwd cy ad σ 0 sh) sz)) (entryFrame m args (tb j).1.2.2.1) := by
      intro p e s m args below meth c s₁ B hml htab hv
      obtain ⟨hargs, hsz, hP, hK, hD, hS, hE⟩ := hv
      subst hsz
      have hts : ∀ w ∈ gtbl, w.before args s = true := fun w hw => atoms_spec (ws := mcw (tb j).1 :: gtbl) B.pre w (List.mem_cons_of_mem _ hw)
      have hown : s.vm.findClass (tb j).1.1.cls = some m.cls := findClass_of_methodNamed B.named
      have hx := B.exec
      have hbc := B.bytes
      have hlocks := B.notSynchronized
      have hret := B.returns
      have hy : mHy p s m args c (tb j).1.1.cls (tb j).1.2.1 (tb j).1.2.2.1 D cy (va_A (mwd cy ad σ 0 sh) s.heap.size) := ⟨hx, hbc, hml, hown, hts, hK, fun q hq => Or.inr hq⟩
      have hAS : ∀ q, va_A (mwd cy ad σ 0 sh) s.heap.size q → S0 ≤ q := by
        rintro q (⟨k, e9, hk⟩ | hq)
        · exact hD.2 k (q, e9) hk
        · exact Nat.le_trans hS hq
      subst hargs
      rw [lg_entry_eq]
      have hR0 : mRl s D cy (va_A (mwd cy ad σ 0 sh) s.heap.size) (tb j).1.2.2.1 ad (mpad (tb j).1.2.2.1 (ment as)) sh σ s.heap [] (lg_sl (as.map (mvm ad)) ++ List.replicate ((tb j).1.2.2.1 - (lg_sl (as.map (mvm ad))).length) Slot.unset).toArray := ⟨hP, hD.self, va_S.rf, mLR_entry hcat⟩
      refine h (fun lb L st sh2 σ2 cl sl => mWt p l e (mRm (d + 1) (mi j).1 (mi j).2.1) s m (as.map (mvm ad)).toArray below meth c D cy (va_A (mwd cy ad σ 0 sh) s.heap.size) (tb j).1.2.2.1 (vx_MQ below (mQc D cy (va_A (mwd cy ad σ 0 sh) s.heap.size) sh.length ad Q) (mXc D cy (va_A (mwd cy ad σ 0 sh) s.heap.size) sh.length ad Q) (as.map (mvm ad)).toArray s (mi j).1 (mi j).2.1 (va_A (mwd cy ad σ 0 sh) s.heap.size)) sh.length ad lb L st sh2 σ2 cl sl) ?_ ad s.heap [] _ (fun _ _ => rfl) (Nat.le_refl _) hR0
      intro lb L st sh2 σ2 cl sl hbx
      rcases mlk_mem (cd j) lb with hnil | hmem
      · rw [hnil] at hbx; exact hbx.elim
      · refine mW_bx (tb := tb) (NM := NM) (hh := (tb j).1.2.2.2.2) (init := decide ((tb j).1.1.name = "<init>")) (S0 := S0) (d0 := d) (adc := adc) (adV := adV) hy hE hAS hS hadc (by simp only [mRm]; omega) (by simp only [mRm]; omega) rfl rfl ?_ ?_ hcls ?_ htab (fun N f z => by cases z) (fun _ _ _ _ _ _ _ z => z) ?_ ?_ ?_ ?_ ?_ _ lb L st sh2 σ2 cl sl (hbs _ hmem) hbx
        · intro j2 hj2
          have := hjb j2 hj2
          simp only [mjb, Bool.and_eq_true] at this
          exact this.1
        · intro j2 as2 sh3 σ3 Q2 hj2 hc2
          exact ih j2 as2 sh3 σ3 Q2 hj2 hc2
        · intro hi
          rw [(name_of_methodNamed B.named B.method).1]
          exact of_decide_eq_true hi
        · intro x pc L2 sh3 σ3 cl2 sl2 hd hrb hcl hsl hq ad2 H locs ls hag hn0 hR
          have hq9 : Q (.inl (some (.int x))) sh3 σ3 ∧ ∃ ty, (tb j).1.2.2.2.1 = some ty ∧ narrow ty (.int x) = .int x := by
            simp only [mtyQ] at hq
            split at hq
            · rename_i hr9; exact ⟨hq, .int, hr9, rfl⟩
            · rename_i hr9; exact ⟨hq, .boolean, hr9, (mnar_bool (hrb (by rw [hr9]; rfl))).1⟩
            · exact hq.elim
          obtain ⟨hq, ty, hty, hnar⟩ := hq9
          refine vx_ret (fun T hT X => (W.zret hx hbc (hret.trans hty) hnar (fun t ht hW => ⟨⟨some (.int x), sh3, σ3, ad2, rfl, hq, ⟨hag, hn0⟩, by rw [ht]; exact hR.1, hR.2.1⟩, hR.2.2.1.F ht⟩) (fun q hq9 => hR.2.2.1.2.2 q hq9) hd hlocks) T hT (stand_widen X hcl hsl))
        · intro x pc L2 sh3 σ3 cl2 sl2 hd hcl hsl hq ad2 H locs ls hag hn0 hR
          have hq9 : Q (.inl (some (.long x))) sh3 σ3 ∧ (tb j).1.2.2.2.1 = some .long := by
            simp only [mtyQ] at hq
            split at hq
            · rename_i hr9; exact ⟨hq, hr9⟩
            · exact hq.elim
          obtain ⟨hq, hty⟩ := hq9
          refine vx_ret (fun T hT X => (W.lret hx hbc (hret.trans hty) (fun t ht hW => ⟨⟨some (.long x), sh3, σ3, ad2, rfl, hq, ⟨hag, hn0⟩, by rw [ht]; exact hR.1, hR.2.1⟩, hR.2.2.1.F ht⟩) (fun q hq9 => hR.2.2.1.2.2 q hq9) hd hlocks) T hT (stand_widen X hcl hsl))
        · intro pc L2 sh3 σ3 cl2 sl2 hd hcl hsl hq ad2 H locs ls hag hn0 hR
          have hq9 : Q (.inl none) sh3 σ3 ∧ (tb j).1.2.2.2.1 = none := by
            simp only [mtyQ] at hq
            split at hq
            · rename_i hr9; exact ⟨hq, hr9⟩
            · exact hq.elim
          obtain ⟨hq, hty⟩ := hq9
          refine vx_ret (fun T hT X => (W.vret hx hbc (hret.trans hty) (fun t ht hW => ⟨⟨none, sh3, σ3, ad2, rfl, hq, ⟨hag, hn0⟩, by rw [ht]; exact hR.1, hR.2.1⟩, hR.2.2.1.F ht⟩) (fun q hq9 => hR.2.2.1.2.2 q hq9) hd hlocks) T hT (stand_widen X hcl hsl))
        · intro k w a ps pc L2 st2 sh3 σ3 cl2 sl2 hd hth hcat2 hcl hsl hq ad2 H locs ls hag hn0 hR
          have hq : Q (.inr a) sh3 σ3 := hq
          obtain ⟨is, wide, w2, txt, X, ic, lw, e1, e2, e3, e4, e5, e6, e7, e8, e9, e10⟩ := mthb_at hth
          obtain ⟨z1, z2, ix, rx, z3, z4, z5, z6, z7, z8⟩ := mth_all a X ic e2 e3
          have hnil : (tb j).1.2.2.2.2 = [] := by
            rw [Bool.or_eq_true] at hnt
            rcases hnt with z | z
            · exact absurd e1 (of_decide_eq_true z)
            · exact of_decide_eq_true z
          have hS9 : va_S (fun q => S0 ≤ q) s.heap H locs := ⟨hR.2.2.1.1, fun q h1 h2 => hR.2.2.1.2.1 q h1 (fun z => h2 (hAS q z)), fun q hq9 => hAS _ (hR.2.2.1.2.2 q hq9)⟩
          obtain ⟨tx, htx⟩ := e6
          refine mthrow (A := fun q => S0 ≤ q) (Y := "java/lang/RuntimeException") (r := ["java/lang/Exception"]) (text := tx) (sa := adc (1000 + txt)) hx hbc hfl z3 z4 z5 z6 (by rw [← e1]; exact hown) z2 (by decide +kernel) (by decide +kernel) (mword hts e4) (mword hts e5) (hE.1 _ htx) (mth_hat hts hE z1 z7) ?_ hE.2.2.2.2.1.1 hE.2.2.2.2.1.2 hS9 (hR.2.2.2.1.trans hml.symm) hd e7 e8 e9 e10 (fun x hx9 => by rw [htab, hnil] at hx9; cases hx9) ?_ ?_ hcl hsl hlocks ?_ (fun z hz9 => hR.2.2.1.2.2 z hz9) hcl hsl
          · intro w hw
            rcases List.mem_cons.mp hw with rfl | hw
            · rfl
            · rcases List.mem_cons.mp hw with rfl | hw
              · rfl
              · exact List.all_eq_true.mp z8 w hw
          · show 1 + 1 + 3 < 20 + (d + 1); omega
          · rw [mcat_eq]; show mcat st2 + (13 * (1 + 1 + 1) + 43) ≤ 400 + 60 * (d + 1); omega
          · intro t ht h1 h2
            refine ⟨⟨a, sh3, σ3, ad2, e2, hq, ⟨hag, hn0⟩, hR.1.kept (fun k9 q9 hk9 => h2 q9.1 ((hR.1 k9 q9 hk9).lt)), hR.2.1⟩, Nat.le_trans hR.2.2.1.1 h1, fun q h3 h4 => ?_⟩
            rw [h2 q (Nat.lt_of_lt_of_le h3 hR.2.2.1.1)]
            exact hR.2.2.1.2.1 q h3 h4
        · intro x E ce q L2 sh3 σ3 cl2 sl2 ad2 H locs ls pc rest hq hxE hag hn0 hR hcl hsl hce hcv hcl2 hz
          have hq : Q (.inr x) sh3 σ3 := hq
          exact vx_outP hown hlocks hz hce hcv hcl2 (fun t ht hW => ⟨⟨x, sh3, σ3, ad2, hxE, hq, ⟨hag, hn0⟩, by rw [ht]; exact hR.1, hR.2.1⟩, hR.2.2.1.F ht⟩) (fun z hz9 => hR.2.2.1.2.2 z hz9) hcl hsl
    cases hh : (tb j).1.2.2.2.2 with
    | nil =>
      refine vx_ofW hpl (ws' := gtbl) (cc := (tb j).1.2.1) (maxL := (tb j).1.2.2.1) (ret := (tb j).1.2.2.2.1) (by unfold mcw; rw [hh]) ?_
      intro p e s m args below meth c s₁ B hml ht hv
      refine core p e s m args below meth c s₁ B hml ?_ hv
      rw [hh]
      cases he : c.exceptionTable.toList with
      | nil => rfl
      | cons z zs => exact (ht z (by rw [he]; exact List.mem_cons_self)).elim
    | cons h0 hs =>
      have hw : mcw (tb j).1 :: gtbl = Cond.codeWith (tb j).1.1 (tb j).1.2.1 (tb j).1.2.2.1 (tb j).1.2.2.2.1 (h0 :: hs) :: gtbl := by unfold mcw; rw [hh]
      refine vx_ofWH hpl (ws' := gtbl) (cc := (tb j).1.2.1) (maxL := (tb j).1.2.2.1) (ret := (tb j).1.2.2.2.1) hw ?_
      intro p e s m args below meth c s₁ B hml hv
      refine core p e s m args below meth c s₁ B hml ?_ hv
      rw [hh]
      exact vx_table (x := (tb j).1.1) B (atoms_spec (ws := mcw (tb j).1 :: gtbl) B.pre _ (by rw [hw]; exact List.mem_cons_self))
end MSO
end
section
/-! THE TABLE OF THE METHODS (made by gen.py, of javap's listing) -/
/-- a place in a list of lists of 16 -/
def mg2 {α : Type} (d : α) (LL : List (List α)) (a : Nat) : α := match mnx LL (a / 16) with
  | some l => (match mnx l (a % 16) with | some x => x | none => d)
  | none => d
def mte0 : mTe := ((objectInit, ByteArray.empty, 0, none, []), 9, 0, 0, 0, 0, 0, 0)
def mTB_0 : List mTe := [((yX10_init, prog_1_method_1_code, 1, none, []), 2, 0, 9, 150, 149, 0, 119),
  ((yX10_feed, prog_1_method_2_code, 6, some .int, []), 0, 5, 9, 483, 481, 482, 119),
  ((yX10_end, prog_1_method_3_code, 2, some .boolean, []), 0, 1, 9, 495, 493, 494, 119),
  ((yX10_yard, prog_1_method_4_code, 2, some .int, []), 0, 0, 9, 693, 691, 692, 119),
  ((yX10_law, prog_1_method_5_code, 2, some .int, []), 0, 0, 9, 988, 986, 987, 119),
  ((yX10_fault, prog_1_method_6_code, 1, some .int, []), 0, 0, 9, 503, 501, 502, 119),
  ((yX10_street, prog_1_method_7_code, 3, some .int, []), 0, 2, 9, 1002, 1000, 1001, 119),
  ((yX10_mix, prog_1_method_8_code, 3, some .int, []), 0, 2, 9, 1097, 1095, 1096, 119),
  ((yX10_cart, prog_1_method_9_code, 3, some .int, []), 0, 2, 9, 1109, 1107, 1108, 119),
  ((yX10_mesh, prog_1_method_10_code, 2, some .int, []), 0, 1, 9, 1165, 1163, 1164, 119),
  ((yX10_contract, prog_1_method_11_code, 3, some .int, []), 0, 2, 9, 1173, 1171, 1172, 119),
  ((yX10_heap, prog_1_method_12_code, 2, some .int, []), 0, 1, 9, 1187, 1185, 1186, 119),
  ((yX10_way, prog_1_method_13_code, 3, some .int, []), 0, 2, 9, 1194, 1192, 1193, 119),
  ((yX10_days, prog_1_method_14_code, 2, some .int, []), 0, 1, 9, 1201, 1199, 1200, 119),
  ((yX10_tip, prog_1_method_15_code, 2, some .int, []), 0, 1, 9, 1261, 1259, 1260, 119),
  ((yX10_buy, prog_1_method_16_code, 2, some .int, []), 0, 1, 9, 1285, 1283, 1284, 119)]
def mTB_1 : List mTe := [((yX10_take, prog_1_method_17_code, 6, some .int, []), 0, 4, 9, 1295, 1293, 1294, 119),
  ((yX10_drop, prog_1_method_18_code, 2, none, []), 0, 1, 9, 1304, 1302, 1303, 119),
  ((yX10_hire, prog_1_method_19_code, 3, some .int, []), 0, 2, 9, 1313, 1311, 1312, 119),
  ((yX10_lay, prog_1_method_20_code, 5, some .int, []), 0, 3, 9, 1322, 1320, 1321, 119),
  ((yX10_douse, prog_1_method_21_code, 2, some .boolean, []), 0, 0, 9, 507, 505, 506, 119),
  ((yX10_fill, prog_1_method_22_code, 2, some .int, []), 0, 1, 9, 1331, 1329, 1330, 119),
  ((yX10_classes, prog_1_method_23_code, 2, some .int, []), 0, 1, 9, 530, 528, 529, 119),
  ((yX10_classOf, prog_1_method_24_code, 4, some .int, []), 0, 2, 9, 1340, 1338, 1339, 119),
  ((yX10_held, prog_1_method_25_code, 4, some .int, []), 0, 2, 9, 1356, 1354, 1355, 119),
  ((yX10_fewest, prog_1_method_26_code, 6, some .int, []), 0, 0, 9, 544, 542, 543, 119),
  ((yX10_clean, prog_1_method_27_code, 7, some .int, []), 0, 2, 9, 1364, 1362, 1363, 119),
  ((yX10_round, prog_1_method_28_code, 2, some .int, []), 0, 0, 9, 1371, 1369, 1370, 119),
  ((yX10_trips, prog_1_method_29_code, 2, some .int, []), 0, 1, 9, 1387, 1385, 1386, 119),
  ((yX10_worth, prog_1_method_30_code, 1, some .int, []), 0, 0, 9, 568, 566, 567, 119),
  ((yX10_serves, prog_1_method_31_code, 1, some .int, []), 0, 0, 9, 602, 600, 601, 119),
  ((yX10_blend, prog_1_method_32_code, 9, some .int, []), 0, 4, 9, 1399, 1397, 1398, 119)]
def mTB_2 : List mTe := [((yX10_from, prog_1_method_33_code, 1, some .int, []), 0, 0, 9, 1408, 1406, 1407, 119),
  ((yX10_likely, prog_1_method_34_code, 1, some .int, []), 0, 0, 9, 1433, 1431, 1432, 119),
  ((yX10_ask, prog_1_method_35_code, 1, some .int, []), 0, 0, 9, 1444, 1442, 1443, 119),
  ((yX10_meshes, prog_1_method_36_code, 2, some .int, []), 0, 1, 9, 1466, 1464, 1465, 119),
  ((yX10_sift, prog_1_method_37_code, 1, some .int, []), 0, 0, 9, 1488, 1486, 1487, 119),
  ((yX10_ends, prog_1_method_38_code, 1, some .int, []), 0, 0, 9, 606, 604, 605, 119),
  ((yX10_side, prog_1_method_39_code, 3, some .int, []), 0, 0, 9, 617, 615, 616, 119),
  ((yX10_pairs, prog_1_method_40_code, 2, some .int, []), 0, 1, 9, 1505, 1503, 1504, 119),
  ((yX10_share, prog_1_method_41_code, 5, some .int, []), 0, 2, 9, 1525, 1523, 1524, 119),
  ((yX10_rests, prog_1_method_42_code, 7, some .int, []), 0, 1, 9, 1537, 1535, 1536, 119),
  ((yX10_odds, prog_1_method_43_code, 5, some .int, []), 0, 2, 9, 1549, 1547, 1548, 119),
  ((yX10_most, prog_1_method_44_code, 2, some .int, []), 0, 1, 9, 1562, 1560, 1561, 119),
  ((yX10_open, prog_1_method_45_code, 4, some .int, []), 0, 1, 9, 621, 619, 620, 119),
  ((yX10_twins, prog_1_method_46_code, 4, some .int, []), 0, 0, 9, 638, 636, 637, 119),
  ((yX10_wanted, prog_1_method_47_code, 5, some .int, []), 0, 1, 9, 1583, 1581, 1582, 119),
  ((yX10_ahead, prog_1_method_48_code, 3, some .int, []), 0, 2, 9, 1590, 1588, 1589, 119)]
def mTB_3 : List mTe := [((yX10_trial, prog_1_method_49_code, 3, some .int, []), 0, 2, 9, 1601, 1599, 1600, 119),
  ((yX10_span, prog_1_method_50_code, 5, some .int, []), 0, 2, 9, 1608, 1606, 1607, 119),
  ((yX10_led, prog_1_method_51_code, 3, some .int, []), 0, 2, 9, 1615, 1613, 1614, 119),
  ((yX10_log, prog_1_method_52_code, 3, some .int, []), 0, 2, 9, 1634, 1632, 1633, 119),
  ((yX10_seed, prog_1_method_53_code, 3, some .int, []), 0, 1, 9, 650, 648, 649, 119),
  ((yX10_undo, prog_1_method_54_code, 1, some .boolean, []), 0, 0, 9, 654, 652, 653, 119),
  ((yX10_image, prog_1_method_55_code, 1, none, []), 0, 0, 9, 662, 660, 661, 119),
  ((yX10_back, prog_1_method_56_code, 1, some .boolean, []), 0, 0, 9, 672, 670, 671, 119),
  ((yX10_count, prog_1_method_57_code, 2, some .int, []), 0, 1, 9, 684, 682, 683, 119),
  ((yX10_needStreet, prog_1_method_58_code, 2, none, []), 0, 1, 9, 1006, 1005, 16, 119),
  ((yX10_needCart, prog_1_method_59_code, 2, none, []), 0, 1, 9, 1113, 1112, 19, 119),
  ((yX10_needContract, prog_1_method_60_code, 2, none, []), 0, 1, 9, 1177, 1176, 23, 119),
  ((yX10_needGrain, prog_1_method_61_code, 1, none, []), 1, 1, 9, 1100, 1099, 0, 119),
  ((yX10_needTrialDays, prog_1_method_62_code, 1, none, []), 1, 1, 9, 1593, 1592, 0, 119),
  ((yX10_needRows, prog_1_method_63_code, 3, none, []), 0, 1, 9, 1412, 1411, 25, 119),
  ((yX10_partOf, prog_1_method_64_code, 4, some .int, []), 0, 1, 9, 1074, 1073, 18, 119)]
def mTB_4 : List mTe := [((yX10_reachedBy, prog_1_method_65_code, 4, some .int, []), 0, 1, 9, 1126, 1125, 20, 119),
  ((yX10_isCut, prog_1_method_66_code, 2, some .boolean, []), 1, 2, 9, 1346, 1345, 0, 119),
  ((yX10_runLow, prog_1_method_67_code, 3, some .int, []), 1, 2, 9, 1343, 1342, 0, 119),
  ((yX10_runHigh, prog_1_method_68_code, 3, some .int, []), 1, 2, 9, 1349, 1348, 0, 119),
  ((yX10_cutsNeeded, prog_1_method_69_code, 3, some .int, []), 0, 0, 9, 548, 547, 0, 119),
  ((yX10_streetsTold, prog_1_method_70_code, 4, some .int, []), 0, 0, 9, 1375, 1374, 24, 119),
  ((yX10_lead, prog_1_method_71_code, 5, some .int, []), 0, 2, 9, 610, 609, 1, 119),
  ((yX10_nextForShovel, prog_1_method_72_code, 4, some .int, []), 0, 1, 9, 1530, 1529, 32, 119),
  ((yX10_carterHas, prog_1_method_73_code, 2, some .int, []), 1, 2, 9, 1540, 1539, 0, 119),
  ((yX10_waysOfFire, prog_1_method_74_code, 3, some .long, []), 0, 2, 9, 1554, 1553, 33, 119),
  ((yX10_fullest, prog_1_method_75_code, 3, some .int, []), 0, 0, 9, 1566, 1565, 34, 119),
  ((yX10_farthest, prog_1_method_76_code, 3, some .int, []), 0, 0, 9, 1570, 1569, 35, 119),
  ((yX10_richest, prog_1_method_77_code, 3, some .int, []), 0, 0, 9, 1574, 1573, 36, 119),
  ((yX11_init, prog_13_method_1_code, 1, none, []), 2, 0, 10, 1641, 1640, 0, 129),
  ((yX11_thrown, prog_13_method_2_code, 1, some .int, []), 0, 0, 10, 1722, 1720, 1721, 129),
  ((yX11_isIn, prog_13_method_3_code, 3, some .boolean, []), 1, 3, 10, 1733, 1732, 0, 129)]
def mTB_5 : List mTe := [((yX11_lesser, prog_13_method_4_code, 2, some .int, []), 1, 2, 10, 1982, 1981, 0, 129),
  ((yX11_greater, prog_13_method_5_code, 2, some .int, []), 1, 2, 10, 1871, 1870, 0, 129),
  ((yX11_isOf, prog_13_method_6_code, 2, some .boolean, []), 1, 2, 10, 1979, 1978, 0, 129),
  ((yX11_bits, prog_13_method_7_code, 3, some .int, []), 1, 1, 10, 2138, 2137, 0, 129),
  ((yX11_of, prog_13_method_8_code, 3, some .int, []), 0, 2, 10, 1912, 1911, 68, 129),
  ((yX11_mixOf, prog_13_method_9_code, 3, some .int, []), 0, 2, 10, 1920, 1919, 70, 129),
  ((yX11_ofDeal, prog_13_method_10_code, 3, some .int, []), 0, 2, 10, 2002, 2001, 84, 129),
  ((yX11_hold, prog_13_method_11_code, 2, some .int, []), 0, 1, 10, 1959, 1958, 77, 129),
  ((yX11_goesFar, prog_13_method_12_code, 2, some .int, []), 0, 1, 10, 1963, 1962, 78, 129),
  ((yX11_heaped, prog_13_method_13_code, 2, some .int, []), 0, 1, 10, 2010, 2009, 85, 129),
  ((yX11_isStreet, prog_13_method_14_code, 2, some .boolean, []), 0, 1, 10, 1908, 1907, 67, 129),
  ((yX11_isCart, prog_13_method_15_code, 2, some .boolean, []), 0, 1, 10, 1955, 1954, 76, 129),
  ((yX11_isDeal, prog_13_method_16_code, 2, some .boolean, []), 0, 1, 10, 1998, 1997, 83, 129),
  ((yX11_isGrain, prog_13_method_17_code, 1, some .boolean, []), 1, 1, 10, 1947, 1946, 0, 129),
  ((yX11_isOpen, prog_13_method_18_code, 2, some .boolean, []), 0, 1, 10, 2055, 2054, 94, 129),
  ((yX11_feed, prog_13_method_19_code, 8, some .int, []), 0, 5, 10, 1726, 1724, 1725, 129)]
def mTB_6 : List mTe := [((yX11_end, prog_13_method_20_code, 2, some .boolean, []), 0, 1, 10, 1730, 1728, 1729, 129),
  ((yX11_letter, prog_13_method_21_code, 2, some .int, []), 0, 1, 10, 1757, 1756, 41, 129),
  ((yX11_skip, prog_13_method_22_code, 1, none, []), 0, 0, 10, 1753, 1752, 40, 129),
  ((yX11_isSign, prog_13_method_23_code, 2, some .boolean, []), 0, 1, 10, 1800, 1799, 50, 129),
  ((yX11_has, prog_13_method_24_code, 4, some .boolean, []), 0, 1, 10, 1770, 1769, 44, 129),
  ((yX11_wrong, prog_13_method_25_code, 2, none, []), 0, 1, 10, 1761, 1760, 42, 129),
  ((yX11_here, prog_13_method_26_code, 1, some .int, []), 0, 0, 10, 1782, 1781, 46, 129),
  ((yX11_figures, prog_13_method_27_code, 5, some .int, []), 0, 2, 10, 1778, 1777, 45, 129),
  ((yX11_after, prog_13_method_28_code, 4, some .int, []), 0, 3, 10, 1837, 1836, 56, 129),
  ((yX11_expects, prog_13_method_29_code, 3, some .boolean, []), 0, 1, 10, 1842, 1841, 57, 129),
  ((yX11_streetLine, prog_13_method_30_code, 10, none, []), 0, 1, 10, 1832, 1831, 55, 129),
  ((yX11_cartLine, prog_13_method_31_code, 4, none, []), 0, 1, 10, 1847, 1846, 58, 129),
  ((yX11_hires, prog_13_method_32_code, 3, none, []), 0, 2, 10, 1853, 1852, 59, 129),
  ((yX11_sieveLine, prog_13_method_33_code, 3, none, []), 0, 1, 10, 1858, 1857, 60, 129),
  ((yX11_buys, prog_13_method_34_code, 2, none, []), 0, 1, 10, 1862, 1861, 61, 129),
  ((yX11_dealLine, prog_13_method_35_code, 6, none, []), 0, 1, 10, 1867, 1866, 62, 129)]
def mTB_7 : List mTe := [((yX11_takes, prog_13_method_36_code, 6, none, []), 0, 4, 10, 1877, 1876, 63, 129),
  ((yX11_heapLine, prog_13_method_37_code, 3, none, []), 0, 0, 10, 1882, 1881, 64, 129),
  ((yX11_tells, prog_13_method_38_code, 5, none, []), 0, 3, 10, 1887, 1886, 65, 129),
  ((yX11_yardLine, prog_13_method_39_code, 2, none, []), 0, 0, 10, 1828, 1827, 54, 129),
  ((yX11_begins, prog_13_method_40_code, 1, none, []), 0, 0, 10, 1745, 1744, 38, 129),
  ((yX11_read, prog_13_method_41_code, 4, some .int, []), 0, 1, 10, 1749, 1748, 39, 129),
  ((yX11_putsAside, prog_13_method_42_code, 2, none, []), 0, 0, 10, 1741, 1740, 37, 129),
  ((yX11_comesBack, prog_13_method_43_code, 2, none, []), 0, 0, 10, 1892, 1891, 66, 129),
  ((yX11_yard, prog_13_method_44_code, 2, some .int, []), 0, 0, 10, 1737, 1735, 1736, 129),
  ((yX11_part, prog_13_method_45_code, 2, some .int, []), 0, 0, 10, 1815, 1814, 53, 129),
  ((yX11_sum, prog_13_method_46_code, 2, some .int, []), 0, 0, 10, 1811, 1810, 52, 129),
  ((yX11_plain, prog_13_method_47_code, 4, some .boolean, []), 0, 0, 10, 1804, 1803, 51, 129),
  ((yX11_atom, prog_13_method_48_code, 4, some .boolean, []), 0, 0, 10, 1795, 1794, 49, 129),
  ((yX11_every, prog_13_method_49_code, 3, some .boolean, []), 0, 0, 10, 1791, 1790, 48, 129),
  ((yX11_some, prog_13_method_50_code, 3, some .boolean, []), 0, 0, 10, 1787, 1786, 47, 129),
  ((yX11_lawLine, prog_13_method_51_code, 4, none, []), 0, 0, 10, 1765, 1764, 43, 129)]
def mTB_8 : List mTe := [((yX11_law, prog_13_method_52_code, 3, some .int, []), 0, 0, 10, 1896, 1894, 1895, 129),
  ((yX11_fault, prog_13_method_53_code, 1, some .int, []), 0, 0, 10, 1900, 1898, 1899, 129),
  ((yX11_loadOf, prog_13_method_54_code, 4, some .int, []), 0, 1, 10, 1916, 1915, 69, 129),
  ((yX11_asks, prog_13_method_55_code, 4, none, []), 0, 1, 10, 1928, 1927, 72, 129),
  ((yX11_fillsOf, prog_13_method_56_code, 2, some .int, []), 0, 1, 10, 1924, 1923, 71, 129),
  ((yX11_tollOf, prog_13_method_57_code, 2, some .int, []), 0, 1, 10, 1932, 1931, 73, 129),
  ((yX11_wayOf, prog_13_method_58_code, 5, some .int, []), 0, 2, 10, 1936, 1935, 74, 129),
  ((yX11_draw, prog_13_method_59_code, 2, some .int, []), 0, 1, 10, 2046, 2045, 92, 129),
  ((yX11_logs, prog_13_method_60_code, 6, none, []), 0, 4, 10, 2042, 2041, 91, 129),
  ((yX11_unloads, prog_13_method_61_code, 4, none, []), 0, 2, 10, 2038, 2037, 90, 129),
  ((yX11_drives, prog_13_method_62_code, 4, none, []), 0, 1, 10, 2034, 2033, 89, 129),
  ((yX11_heapBetween, prog_13_method_63_code, 5, some .int, []), 0, 2, 10, 2063, 2062, 96, 129),
  ((yX11_hasFor, prog_13_method_64_code, 2, some .boolean, []), 0, 1, 10, 2059, 2058, 95, 129),
  ((yX11_isFilled, prog_13_method_65_code, 6, none, []), 0, 2, 10, 2067, 2066, 97, 129),
  ((yX11_halves, prog_13_method_66_code, 2, none, []), 0, 1, 10, 2051, 2050, 93, 129),
  ((yX11_passes, prog_13_method_67_code, 4, some .int, []), 0, 1, 10, 2030, 2029, 88, 129)]
def mTB_9 : List mTe := [((yX11_goes, prog_13_method_68_code, 5, some .int, []), 0, 2, 10, 2026, 2025, 87, 129),
  ((yX11_waitsOfAll, prog_13_method_69_code, 3, some .int, []), 0, 0, 10, 1940, 1939, 75, 129),
  ((yX11_openOnes, prog_13_method_70_code, 3, some .int, []), 0, 0, 10, 2174, 2173, 107, 129),
  ((yX11_street, prog_13_method_71_code, 3, some .int, []), 0, 2, 10, 1904, 1902, 1903, 129),
  ((yX11_mix, prog_13_method_72_code, 3, some .int, []), 0, 2, 10, 1944, 1942, 1943, 129),
  ((yX11_allLoops, prog_13_method_73_code, 6, none, []), 0, 0, 10, 1975, 1974, 81, 129),
  ((yX11_waitsOf, prog_13_method_74_code, 4, some .int, []), 0, 1, 10, 1986, 1985, 82, 129),
  ((yX11_bestRound, prog_13_method_75_code, 5, some .int, []), 0, 1, 10, 1971, 1970, 80, 129),
  ((yX11_reached, prog_13_method_76_code, 4, some .int, []), 0, 1, 10, 1967, 1966, 79, 129),
  ((yX11_cart, prog_13_method_77_code, 3, some .int, []), 0, 2, 10, 1951, 1949, 1950, 129),
  ((yX11_mesh, prog_13_method_78_code, 2, some .int, []), 0, 1, 10, 1990, 1988, 1989, 129),
  ((yX11_contract, prog_13_method_79_code, 3, some .int, []), 0, 2, 10, 1994, 1992, 1993, 129),
  ((yX11_heap, prog_13_method_80_code, 2, some .int, []), 0, 1, 10, 2006, 2004, 2005, 129),
  ((yX11_way, prog_13_method_81_code, 3, some .int, []), 0, 2, 10, 2014, 2012, 2013, 129),
  ((yX11_remembers, prog_13_method_82_code, 2, none, []), 0, 0, 10, 2022, 2021, 86, 129),
  ((yX11_sets, prog_13_method_83_code, 4, some .int, []), 0, 2, 10, 2079, 2078, 98, 129)]
def mTB_10 : List mTe := [((yX11_days, prog_13_method_84_code, 2, some .int, []), 0, 1, 10, 2018, 2016, 2017, 129),
  ((yX11_tip, prog_13_method_85_code, 2, some .int, []), 0, 1, 10, 2071, 2069, 2070, 129),
  ((yX11_buy, prog_13_method_86_code, 3, some .int, []), 0, 1, 10, 2075, 2073, 2074, 129),
  ((yX11_take, prog_13_method_87_code, 6, some .int, []), 0, 4, 10, 2083, 2081, 2082, 129),
  ((yX11_drop, prog_13_method_88_code, 3, none, []), 0, 1, 10, 2087, 2085, 2086, 129),
  ((yX11_hire, prog_13_method_89_code, 3, some .int, []), 0, 2, 10, 2091, 2089, 2090, 129),
  ((yX11_lay, prog_13_method_90_code, 4, some .int, []), 0, 3, 10, 2095, 2093, 2094, 129),
  ((yX11_douse, prog_13_method_91_code, 1, some .boolean, []), 0, 0, 10, 2099, 2097, 2098, 129),
  ((yX11_fill, prog_13_method_92_code, 2, some .int, []), 0, 1, 10, 2103, 2101, 2102, 129),
  ((yX11_isBegin, prog_13_method_93_code, 5, some .boolean, []), 0, 2, 10, 2111, 2110, 99, 129),
  ((yX11_runLow, prog_13_method_94_code, 4, some .int, []), 0, 2, 10, 2119, 2118, 100, 129),
  ((yX11_runHigh, prog_13_method_95_code, 4, some .int, []), 0, 2, 10, 2123, 2122, 101, 129),
  ((yX11_classes, prog_13_method_96_code, 4, some .int, []), 0, 1, 10, 2107, 2105, 2106, 129),
  ((yX11_classOf, prog_13_method_97_code, 3, some .int, []), 0, 2, 10, 2115, 2113, 2114, 129),
  ((yX11_held, prog_13_method_98_code, 3, some .int, []), 0, 2, 10, 2127, 2125, 2126, 129),
  ((yX11_partsAll, prog_13_method_99_code, 4, some .boolean, []), 0, 1, 10, 2135, 2134, 102, 129)]
def mTB_11 : List mTe := [((yX11_fewest, prog_13_method_100_code, 3, some .int, []), 0, 0, 10, 2131, 2129, 2130, 129),
  ((yX11_clean, prog_13_method_101_code, 4, some .int, []), 0, 2, 10, 2142, 2140, 2141, 129),
  ((yX11_round, prog_13_method_102_code, 5, some .int, []), 0, 0, 10, 2146, 2144, 2145, 129),
  ((yX11_trips, prog_13_method_103_code, 5, some .int, []), 0, 1, 10, 2150, 2148, 2149, 129),
  ((yX11_paysOf, prog_13_method_104_code, 2, some .int, []), 0, 1, 10, 2166, 2165, 105, 129),
  ((yX11_areServed, prog_13_method_105_code, 7, some .boolean, []), 0, 1, 10, 2170, 2169, 106, 129),
  ((yX11_paysOfSet, prog_13_method_106_code, 4, some .int, []), 0, 1, 10, 2162, 2161, 104, 129),
  ((yX11_mostServed, prog_13_method_107_code, 4, some .int, []), 0, 0, 10, 2158, 2157, 103, 129),
  ((yX11_worth, prog_13_method_108_code, 1, some .int, []), 0, 0, 10, 2154, 2152, 2153, 129),
  ((yX11_serves, prog_13_method_109_code, 1, some .int, []), 0, 0, 10, 2178, 2176, 2177, 129),
  ((yX11_blend, prog_13_method_110_code, 9, some .int, []), 0, 4, 10, 2182, 2180, 2181, 129),
  ((yX11_hears, prog_13_method_111_code, 6, some .int, []), 0, 0, 10, 2190, 2189, 108, 129),
  ((yX11_from, prog_13_method_112_code, 2, some .int, []), 0, 0, 10, 2186, 2184, 2185, 129),
  ((yX11_likely, prog_13_method_113_code, 4, some .int, []), 0, 0, 10, 2194, 2192, 2193, 129),
  ((yX11_partBy, prog_13_method_114_code, 7, some .int, []), 0, 2, 10, 2202, 2201, 109, 129),
  ((yX11_ask, prog_13_method_115_code, 6, some .int, []), 0, 0, 10, 2198, 2196, 2197, 129)]
def mTB_12 : List mTe := [((yX11_through, prog_13_method_116_code, 2, some .int, []), 1, 2, 10, 2220, 2219, 0, 129),
  ((yX11_isPair, prog_13_method_117_code, 1, some .boolean, []), 1, 1, 10, 2217, 2216, 0, 129),
  ((yX11_siftRows, prog_13_method_118_code, 4, some .int, []), 0, 0, 10, 2210, 2209, 110, 129),
  ((yX11_fitsPair, prog_13_method_119_code, 5, some .boolean, []), 0, 2, 10, 2214, 2213, 111, 129),
  ((yX11_meshes, prog_13_method_120_code, 6, some .int, []), 0, 1, 10, 2206, 2204, 2205, 129),
  ((yX11_sift, prog_13_method_121_code, 10, some .int, []), 0, 0, 10, 2224, 2222, 2223, 129),
  ((yX11_allEnds, prog_13_method_122_code, 4, none, []), 0, 0, 10, 2232, 2231, 112, 129),
  ((yX11_ends, prog_13_method_123_code, 1, some .int, []), 0, 0, 10, 2228, 2226, 2227, 129),
  ((yX11_side, prog_13_method_124_code, 1, some .int, []), 0, 0, 10, 2236, 2234, 2235, 129),
  ((yX11_lowest, prog_13_method_125_code, 2, some .int, []), 1, 1, 10, 2247, 2246, 0, 129),
  ((yX11_both, prog_13_method_126_code, 4, some .int, []), 0, 2, 10, 2251, 2250, 114, 129),
  ((yX11_allBest, prog_13_method_127_code, 5, none, []), 0, 0, 10, 2244, 2243, 113, 129),
  ((yX11_pairs, prog_13_method_128_code, 7, some .int, []), 0, 1, 10, 2240, 2238, 2239, 129),
  ((yX11_share, prog_13_method_129_code, 6, some .int, []), 0, 2, 10, 2255, 2253, 2254, 129),
  ((yX11_heHas, prog_13_method_130_code, 4, some .int, []), 0, 3, 10, 2263, 2262, 115, 129),
  ((yX11_ratHas, prog_13_method_131_code, 2, some .int, []), 1, 2, 10, 2266, 2265, 0, 129)]
def mTB_13 : List mTe := [((yX11_rests, prog_13_method_132_code, 6, some .int, []), 0, 1, 10, 2259, 2257, 2258, 129),
  ((yX11_odds, prog_13_method_133_code, 11, some .int, []), 0, 2, 10, 2270, 2268, 2269, 129),
  ((yX11_valueOf, prog_13_method_134_code, 3, some .int, []), 0, 2, 10, 2280, 2279, 116, 129),
  ((yX11_most, prog_13_method_135_code, 5, some .int, []), 0, 1, 10, 2276, 2274, 2275, 129),
  ((yX11_open, prog_13_method_136_code, 4, some .int, []), 0, 1, 10, 2284, 2282, 2283, 129),
  ((yX11_twins, prog_13_method_137_code, 6, some .int, []), 0, 0, 10, 2288, 2286, 2287, 129),
  ((yX11_wanted, prog_13_method_138_code, 4, some .int, []), 0, 1, 10, 2292, 2290, 2291, 129),
  ((yX11_ahead, prog_13_method_139_code, 5, some .int, []), 0, 2, 10, 2296, 2294, 2295, 129),
  ((yX11_trial, prog_13_method_140_code, 5, some .int, []), 0, 2, 10, 2300, 2298, 2299, 129),
  ((yX11_span, prog_13_method_141_code, 7, some .int, []), 0, 2, 10, 2304, 2302, 2303, 129),
  ((yX11_logged, prog_13_method_142_code, 3, some .int, []), 0, 2, 10, 2312, 2311, 117, 129),
  ((yX11_led, prog_13_method_143_code, 6, some .int, []), 0, 2, 10, 2308, 2306, 2307, 129),
  ((yX11_log, prog_13_method_144_code, 3, some .int, []), 0, 2, 10, 2316, 2314, 2315, 129),
  ((yX11_seed, prog_13_method_145_code, 3, some .int, []), 0, 1, 10, 2320, 2318, 2319, 129),
  ((yX11_undo, prog_13_method_146_code, 2, some .boolean, []), 0, 0, 10, 2324, 2322, 2323, 129),
  ((yX11_image, prog_13_method_147_code, 2, none, []), 0, 0, 10, 2328, 2326, 2327, 129)]
def mTB_14 : List mTe := [((yX11_back, prog_13_method_148_code, 2, some .boolean, []), 0, 0, 10, 2332, 2330, 2331, 129),
  ((yX11_count, prog_13_method_149_code, 2, some .int, []), 0, 1, 10, 2336, 2334, 2335, 129),
  ((yX0_pass, prog_2_method_2_code, 7, some .int, []), 1, 4, 0, 1205, 1204, 0, 143),
  ((yX0_fillBins, prog_2_method_3_code, 4, none, []), 1, 2, 0, 1208, 1207, 0, 143),
  ((yX0_sendOut, prog_2_method_4_code, 8, none, []), 1, 3, 0, 1218, 1217, 0, 143),
  ((yX0_burnAndGnaw, prog_2_method_5_code, 1, none, []), 1, 1, 0, 1234, 1233, 0, 143),
  ((yX0_settleAll, prog_2_method_6_code, 3, some .int, []), 1, 1, 0, 1242, 1241, 0, 143),
  ((yX1_init, prog_3_method_1_code, 1, none, []), 2, 0, 0, 396, 395, 0, 127),
  ((yX1_weigh, prog_3_method_2_code, 6, none, []), 0, 1, 0, 572, 570, 571, 127),
  ((yX1_worthOf, prog_3_method_3_code, 4, some .int, []), 1, 2, 0, 575, 574, 0, 127),
  ((yX1_isEnough, prog_3_method_4_code, 5, some .boolean, []), 1, 2, 0, 592, 591, 0, 127),
  ((yX1_wantedWithin, prog_3_method_5_code, 7, some .int, []), 1, 4, 0, 595, 594, 0, 127),
  ((yX1_putTwoByTwo, prog_3_method_6_code, 3, none, []), 0, 1, 0, 1509, 1507, 1508, 127),
  ((yX1_putFrom, prog_3_method_7_code, 5, none, []), 0, 3, 0, 1513, 1512, 31, 127),
  ((yX1_isPair, prog_3_method_8_code, 4, some .boolean, []), 1, 3, 0, 1517, 1516, 0, 127),
  ((yX2_init, prog_4_method_1_code, 1, none, []), 2, 0, 1, 422, 421, 0, 128)]
def mTB_15 : List mTe := [((yX2_reads, prog_4_method_2_code, 6, some .boolean, []), 0, 2, 1, 1416, 1414, 1415, 128),
  ((yX2_streetsThatFit, prog_4_method_3_code, 4, some .int, []), 0, 1, 1, 1421, 1419, 1420, 128),
  ((yX2_likeliest, prog_4_method_4_code, 6, some .int, []), 0, 1, 1, 1437, 1435, 1436, 128),
  ((yX2_grainToAsk, prog_4_method_5_code, 7, some .int, []), 0, 1, 1, 1448, 1446, 1447, 128),
  ((yX2_wrongRows, prog_4_method_6_code, 5, some .int, []), 0, 2, 1, 1425, 1424, 26, 128),
  ((yX2_pairsThatFit, prog_4_method_7_code, 4, some .int, []), 0, 0, 1, 1481, 1479, 1480, 128),
  ((yX2_firstPair, prog_4_method_8_code, 3, some .int, []), 0, 0, 1, 1470, 1468, 1469, 128),
  ((yX2_grainToSift, prog_4_method_9_code, 4, some .int, []), 0, 0, 1, 1492, 1490, 1491, 128),
  ((yX2_partPairs, prog_4_method_10_code, 4, none, []), 0, 1, 1, 1498, 1497, 30, 128),
  ((yX2_isPairFit, prog_4_method_11_code, 4, some .boolean, []), 0, 2, 1, 1474, 1473, 29, 128),
  ((yX2_passes, prog_4_method_12_code, 3, some .int, []), 1, 3, 1, 1477, 1476, 0, 128),
  ((yX2_clearParts, prog_4_method_13_code, 2, none, []), 0, 0, 1, 1454, 1453, 27, 128),
  ((yX2_greatestPart, prog_4_method_14_code, 3, some .int, []), 0, 0, 1, 1458, 1457, 28, 128),
  ((yX3_init, prog_5_method_1_code, 1, none, []), 2, 0, 2, 308, 307, 0, 123),
  ((yX3_copyFrom, prog_5_method_2_code, 2, none, []), 0, 1, 2, 667, 665, 666, 123),
  ((yX3_clear, prog_5_method_3_code, 1, none, []), 0, 0, 2, 992, 990, 991, 123)]
def mTB_16 : List mTe := [((yX3_emit, prog_5_method_4_code, 3, none, []), 0, 2, 2, 794, 792, 793, 123),
  ((yX3_addLine, prog_5_method_5_code, 4, none, []), 0, 3, 2, 822, 820, 821, 123),
  ((yX3_fillsOf, prog_5_method_6_code, 5, some .int, []), 0, 2, 2, 1042, 1040, 1041, 123),
  ((yX3_tollOf, prog_5_method_7_code, 5, some .int, []), 0, 2, 2, 1061, 1059, 1060, 123),
  ((yX3_holds, prog_5_method_8_code, 7, some .boolean, []), 0, 3, 2, 1046, 1045, 17, 123),
  ((yX3_valueOf, prog_5_method_9_code, 3, some .int, []), 1, 3, 2, 1049, 1048, 0, 123),
  ((yX3_join, prog_5_method_10_code, 3, some .int, []), 1, 3, 2, 1056, 1055, 0, 123),
  ((yX4_init, prog_6_method_1_code, 1, none, []), 2, 0, 3, 195, 194, 0, 122),
  ((yX4_copyFrom, prog_6_method_2_code, 2, none, []), 0, 1, 3, 522, 520, 521, 122),
  ((yX4_add, prog_6_method_3_code, 7, none, []), 0, 5, 3, 1230, 1228, 1229, 122),
  ((yX4_cell, prog_6_method_4_code, 4, some .int, []), 0, 2, 3, 1623, 1621, 1622, 122),
  ((yX4_rowsOf, prog_6_method_5_code, 4, some .int, []), 0, 1, 3, 1627, 1625, 1626, 122),
  ((yX4_latestDayOf, prog_6_method_6_code, 3, some .int, []), 0, 1, 3, 1619, 1617, 1618, 122),
  ((yX5_init, prog_7_method_1_code, 2, none, []), 2, 0, 4, 341, 340, 0, 124),
  ((yX5_keep, prog_7_method_2_code, 2, none, []), 0, 1, 4, 511, 509, 510, 124),
  ((yX5_undoInto, prog_7_method_3_code, 2, some .boolean, []), 0, 1, 4, 658, 656, 657, 124)]
def mTB_17 : List mTe := [((yX5_forget, prog_7_method_4_code, 1, none, []), 0, 0, 4, 680, 678, 679, 124),
  ((yX6_init, prog_8_method_1_code, 4, none, []), 2, 3, 5, 361, 360, 0, 125),
  ((yX6_reads, prog_8_method_2_code, 5, some .boolean, []), 0, 2, 5, 697, 695, 696, 125),
  ((yX6_readsYardLine, prog_8_method_3_code, 1, some .boolean, []), 0, 0, 5, 826, 825, 8, 125),
  ((yX6_readsStreet, prog_8_method_4_code, 7, some .boolean, []), 0, 0, 5, 830, 829, 9, 125),
  ((yX6_readsCart, prog_8_method_5_code, 3, some .boolean, []), 0, 0, 5, 849, 848, 10, 125),
  ((yX6_readsSieve, prog_8_method_6_code, 2, some .boolean, []), 0, 0, 5, 860, 859, 11, 125),
  ((yX6_readsContract, prog_8_method_7_code, 5, some .boolean, []), 0, 0, 5, 869, 868, 12, 125),
  ((yX6_readsHeap, prog_8_method_8_code, 3, some .boolean, []), 0, 0, 5, 881, 880, 13, 125),
  ((yX6_readsRest, prog_8_method_9_code, 1, some .boolean, []), 0, 0, 5, 885, 884, 14, 125),
  ((yX6_readsLawLine, prog_8_method_10_code, 4, some .boolean, []), 0, 0, 5, 712, 711, 2, 125),
  ((yX6_readsAny, prog_8_method_11_code, 3, some .boolean, []), 0, 1, 5, 776, 775, 3, 125),
  ((yX6_readsAll, prog_8_method_12_code, 3, some .boolean, []), 0, 1, 5, 780, 779, 4, 125),
  ((yX6_readsAtom, prog_8_method_13_code, 3, some .boolean, []), 0, 1, 5, 784, 783, 5, 125),
  ((yX6_readsSum, prog_8_method_14_code, 2, some .boolean, []), 0, 0, 5, 805, 804, 6, 125),
  ((yX6_readsPart, prog_8_method_15_code, 3, some .boolean, []), 0, 0, 5, 809, 808, 7, 125)]
def mTB_18 : List mTe := [((yX7_init, prog_9_method_1_code, 1, none, []), 2, 0, 6, 377, 376, 0, 126),
  ((yX7_forget, prog_9_method_2_code, 1, none, []), 0, 0, 6, 676, 674, 675, 126),
  ((yX7_leastWay, prog_9_method_3_code, 3, some .int, []), 0, 2, 6, 1380, 1378, 1379, 126),
  ((yX7_bestSet, prog_9_method_4_code, 8, some .int, []), 0, 2, 6, 1136, 1134, 1135, 126),
  ((yX7_fewestSets, prog_9_method_5_code, 8, some .int, []), 0, 2, 6, 1392, 1390, 1391, 126),
  ((yX7_measure, prog_9_method_6_code, 6, none, []), 0, 1, 6, 1140, 1139, 21, 126),
  ((yX7_leastUpTo, prog_9_method_7_code, 7, some .int, []), 0, 3, 6, 1145, 1144, 22, 126),
  ((yX8_init, prog_10_method_1_code, 1, none, []), 2, 0, 7, 189, 188, 0, 121),
  ((yX8_copyFrom, prog_10_method_2_code, 2, none, []), 0, 1, 7, 515, 513, 514, 121),
  ((yX8_addStreet, prog_10_method_3_code, 4, some .int, []), 0, 3, 7, 840, 838, 839, 121),
  ((yX8_addCart, prog_10_method_4_code, 3, some .int, []), 0, 2, 7, 855, 853, 854, 121),
  ((yX8_addSieve, prog_10_method_5_code, 2, some .int, []), 0, 1, 7, 864, 862, 863, 121),
  ((yX8_addContract, prog_10_method_6_code, 6, some .int, []), 0, 4, 7, 876, 874, 875, 121),
  ((yX8_xOf, prog_10_method_7_code, 2, some .int, []), 0, 1, 7, 1026, 1024, 1025, 121),
  ((yX8_yOf, prog_10_method_8_code, 2, some .int, []), 0, 1, 7, 1030, 1028, 1029, 121),
  ((yX8_waitsOf, prog_10_method_9_code, 2, some .int, []), 0, 1, 7, 1034, 1032, 1033, 121)]
def mTB_19 : List mTe := [((yX8_setWaits, prog_10_method_10_code, 3, none, []), 0, 2, 7, 1215, 1213, 1214, 121),
  ((yX8_mixOf, prog_10_method_11_code, 3, some .int, []), 0, 2, 7, 646, 644, 645, 121),
  ((yX8_setMix, prog_10_method_12_code, 4, none, []), 0, 3, 7, 844, 842, 843, 121),
  ((yX8_loadOf, prog_10_method_13_code, 4, some .int, []), 0, 1, 7, 1038, 1036, 1037, 121),
  ((yX8_isAlike, prog_10_method_14_code, 4, some .boolean, []), 0, 2, 7, 642, 640, 641, 121),
  ((yX8_distance, prog_10_method_15_code, 3, some .int, []), 0, 2, 7, 1065, 1063, 1064, 121),
  ((yX8_waitingSet, prog_10_method_16_code, 3, some .int, []), 0, 0, 7, 1151, 1149, 1150, 121),
  ((yX8_waitsOfSet, prog_10_method_17_code, 4, some .int, []), 0, 1, 7, 1156, 1154, 1155, 121),
  ((yX8_holdOf, prog_10_method_18_code, 2, some .int, []), 0, 1, 7, 1118, 1116, 1117, 121),
  ((yX8_goesOf, prog_10_method_19_code, 2, some .int, []), 0, 1, 7, 1122, 1120, 1121, 121),
  ((yX8_isReached, prog_10_method_20_code, 3, some .boolean, []), 0, 2, 7, 1130, 1128, 1129, 121),
  ((yX8_fetch, prog_10_method_21_code, 4, none, []), 0, 2, 7, 1225, 1223, 1224, 121),
  ((yX8_heapSum, prog_10_method_22_code, 5, some .int, []), 0, 2, 7, 632, 630, 631, 121),
  ((yX8_cutsOf, prog_10_method_23_code, 4, some .int, []), 0, 1, 7, 534, 532, 533, 121),
  ((yX8_dealOf, prog_10_method_24_code, 3, some .int, []), 0, 2, 7, 556, 554, 555, 121),
  ((yX8_lowOf, prog_10_method_25_code, 2, some .int, []), 0, 1, 7, 560, 558, 559, 121)]
def mTB_20 : List mTe := [((yX8_highOf, prog_10_method_26_code, 2, some .int, []), 0, 1, 7, 564, 562, 563, 121),
  ((yX8_manyOf, prog_10_method_27_code, 2, some .int, []), 0, 1, 7, 584, 582, 583, 121),
  ((yX8_paysOf, prog_10_method_28_code, 2, some .int, []), 0, 1, 7, 588, 586, 587, 121),
  ((yX8_priceOf, prog_10_method_29_code, 2, some .int, []), 0, 1, 7, 580, 578, 579, 121),
  ((yX8_isOpen, prog_10_method_30_code, 2, some .boolean, []), 0, 1, 7, 552, 550, 551, 121),
  ((yX8_close, prog_10_method_31_code, 2, none, []), 0, 1, 7, 1252, 1250, 1251, 121),
  ((yX8_canSettle, prog_10_method_32_code, 2, some .boolean, []), 0, 1, 7, 625, 623, 624, 121),
  ((yX8_settle, prog_10_method_33_code, 6, none, []), 0, 2, 7, 1247, 1245, 1246, 121),
  ((yX8_draw, prog_10_method_34_code, 1, some .int, []), 0, 0, 7, 1238, 1236, 1237, 121),
  ((yX9_init, prog_11_method_1_code, 1, none, []), 2, 0, 8, 158, 157, 0, 120),
  ((yX9_hasRoom, prog_11_method_2_code, 1, some .boolean, []), 0, 0, 8, 487, 485, 486, 120),
  ((yX9_append, prog_11_method_3_code, 3, none, []), 0, 1, 8, 491, 489, 490, 120),
  ((yX9_cut, prog_11_method_4_code, 2, some .boolean, []), 0, 1, 8, 499, 497, 498, 120),
  ((yX9_clear, prog_11_method_5_code, 1, none, []), 0, 0, 8, 895, 893, 894, 120),
  ((yX9_partIntoThings, prog_11_method_6_code, 5, none, []), 0, 0, 8, 701, 699, 700, 120),
  ((yX9_kindOf, prog_11_method_7_code, 1, some .int, []), 1, 1, 8, 704, 703, 0, 120)]
def mTB_21 : List mTe := [((yX9_wrongAt, prog_11_method_8_code, 1, some .int, []), 0, 0, 8, 891, 889, 890, 120),
  ((yX9_atEnd, prog_11_method_9_code, 1, some .boolean, []), 0, 0, 8, 708, 706, 707, 120),
  ((yX9_refuse, prog_11_method_10_code, 1, some .boolean, []), 0, 0, 8, 789, 787, 788, 120),
  ((yX9_takesSign, prog_11_method_11_code, 2, some .boolean, []), 0, 1, 8, 798, 796, 797, 120),
  ((yX9_takesWord, prog_11_method_12_code, 4, some .boolean, []), 0, 1, 8, 717, 715, 716, 120),
  ((yX9_takeNumber, prog_11_method_13_code, 6, some .int, []), 0, 2, 8, 771, 769, 770, 120),
  ((yX9_takeFigures, prog_11_method_14_code, 3, some .int, []), 0, 1, 8, 836, 834, 835, 120),
  ((yL_yard, method_3_code, 3, some .int, [(0, 8, 11, 13), (0, 8, 14, 15)]), 1, 2, 0, 687, 686, 0, 118),
  ((yL_law, method_4_code, 3, some .int, [(0, 8, 11, 13)]), 1, 2, 0, 984, 983, 0, 118),
  ((yL_street, method_5_code, 5, some .int, [(0, 10, 13, 24), (0, 10, 17, 26)]), 1, 4, 0, 996, 995, 0, 118),
  ((yL_mix, method_6_code, 5, some .int, [(0, 10, 13, 24)]), 1, 4, 0, 1093, 1092, 0, 118),
  ((yL_cart, method_7_code, 5, some .int, [(0, 10, 13, 24), (0, 10, 17, 26)]), 1, 4, 0, 1105, 1104, 0, 118),
  ((yL_mesh, method_8_code, 4, some .int, [(0, 9, 12, 24)]), 1, 3, 0, 1161, 1160, 0, 118),
  ((yL_contract, method_9_code, 5, some .int, [(0, 10, 13, 24), (0, 10, 17, 26)]), 1, 4, 0, 1169, 1168, 0, 118),
  ((yL_heap, method_10_code, 4, some .int, [(0, 9, 12, 24)]), 1, 3, 0, 1183, 1182, 0, 118),
  ((yL_way, method_11_code, 5, some .int, [(0, 10, 13, 24)]), 1, 4, 0, 1190, 1189, 0, 118)]
def mTB_22 : List mTe := [((yL_days, method_12_code, 4, some .int, [(0, 9, 12, 13)]), 1, 3, 0, 1197, 1196, 0, 118),
  ((yL_tip, method_13_code, 4, some .int, [(0, 9, 12, 24), (0, 9, 15, 53)]), 1, 3, 0, 1256, 1255, 0, 118),
  ((yL_buy, method_14_code, 4, some .int, [(0, 9, 12, 13), (0, 9, 15, 53)]), 1, 3, 0, 1281, 1280, 0, 118),
  ((yL_take, method_15_code, 7, some .int, [(0, 14, 17, 13), (0, 14, 21, 53)]), 1, 6, 0, 1291, 1290, 0, 118),
  ((yL_drop, method_16_code, 3, some .int, [(0, 5, 8, 24), (0, 5, 11, 53)]), 1, 2, 0, 1300, 1299, 0, 118),
  ((yL_hire, method_17_code, 5, some .int, [(0, 10, 13, 13), (0, 10, 17, 53)]), 1, 4, 0, 1309, 1308, 0, 118),
  ((yL_lay, method_18_code, 6, some .int, [(0, 12, 15, 24), (0, 12, 19, 13)]), 1, 5, 0, 1318, 1317, 0, 118),
  ((yL_fill, method_19_code, 4, some .int, [(0, 9, 12, 24), (0, 9, 15, 53)]), 1, 3, 0, 1327, 1326, 0, 118),
  ((yL_classOf, method_20_code, 5, some .int, [(0, 10, 13, 24)]), 1, 4, 0, 1336, 1335, 0, 118),
  ((yL_held, method_21_code, 5, some .int, [(0, 10, 13, 24)]), 1, 4, 0, 1352, 1351, 0, 118),
  ((yL_clean, method_22_code, 5, some .int, [(0, 10, 13, 24)]), 1, 4, 0, 1360, 1359, 0, 118),
  ((yL_round, method_23_code, 3, some .int, [(0, 8, 11, 13)]), 1, 2, 0, 1367, 1366, 0, 118),
  ((yL_trips, method_24_code, 4, some .int, [(0, 9, 12, 13)]), 1, 3, 0, 1383, 1382, 0, 118),
  ((yL_blend, method_25_code, 7, some .int, [(0, 14, 17, 24), (0, 14, 21, 13)]), 1, 6, 0, 1395, 1394, 0, 118),
  ((yL_from, method_26_code, 3, some .int, [(0, 8, 11, 13)]), 1, 2, 0, 1404, 1403, 0, 118),
  ((yL_likely, method_27_code, 3, some .int, [(0, 8, 11, 13)]), 1, 2, 0, 1429, 1428, 0, 118)]
def mTB_23 : List mTe := [((yL_ask, method_28_code, 3, some .int, [(0, 8, 11, 13)]), 1, 2, 0, 1440, 1439, 0, 118),
  ((yL_meshes, method_29_code, 4, some .int, [(0, 9, 12, 13)]), 1, 3, 0, 1462, 1461, 0, 118),
  ((yL_sift, method_30_code, 3, some .int, [(0, 8, 11, 13)]), 1, 2, 0, 1484, 1483, 0, 118),
  ((yL_pairs, method_31_code, 4, some .int, [(0, 9, 12, 24)]), 1, 3, 0, 1501, 1500, 0, 118),
  ((yL_share, method_32_code, 5, some .int, [(0, 10, 13, 24), (0, 10, 17, 13)]), 1, 4, 0, 1521, 1520, 0, 118),
  ((yL_rests, method_33_code, 4, some .int, [(0, 9, 12, 24)]), 1, 3, 0, 1533, 1532, 0, 118),
  ((yL_odds, method_34_code, 5, some .int, [(0, 10, 13, 13)]), 1, 4, 0, 1545, 1544, 0, 118),
  ((yL_most, method_35_code, 4, some .int, [(0, 9, 12, 26)]), 1, 3, 0, 1558, 1557, 0, 118),
  ((yL_wanted, method_36_code, 4, some .int, [(0, 9, 12, 24)]), 1, 3, 0, 1579, 1578, 0, 118),
  ((yL_ahead, method_37_code, 5, some .int, [(0, 10, 13, 24), (0, 10, 17, 13)]), 1, 4, 0, 1586, 1585, 0, 118),
  ((yL_trial, method_38_code, 5, some .int, [(0, 10, 13, 13)]), 1, 4, 0, 1597, 1596, 0, 118),
  ((yL_span, method_39_code, 5, some .int, [(0, 10, 13, 13)]), 1, 4, 0, 1604, 1603, 0, 118),
  ((yL_led, method_40_code, 5, some .int, [(0, 10, 13, 24)]), 1, 4, 0, 1611, 1610, 0, 118),
  ((yL_log, method_41_code, 5, some .int, [(0, 10, 13, 26)]), 1, 4, 0, 1630, 1629, 0, 118),
  ((yJ6_bitCount_0f7a4, prog_21_method_49_code, 1, some .int, []), 1, 1, 0, 537, 536, 0, 145)]
def mTBL : List (List mTe) := [mTB_0, mTB_1, mTB_2, mTB_3, mTB_4, mTB_5, mTB_6, mTB_7, mTB_8, mTB_9, mTB_10, mTB_11, mTB_12, mTB_13, mTB_14, mTB_15, mTB_16, mTB_17, mTB_18, mTB_19, mTB_20, mTB_21, mTB_22, mTB_23]
def tb (j : Nat) : mTe := mg2 mte0 mTBL j
def tbN : Nat := 383
end
section
/-! the blocks of DustYard$Day -/
def bk_226 : List (Nat × List mIt) := [(0, [(.iconst (0), 1, 0, 0, 0, 0, []), (.istore 4, 2, 0, 0, 0, 0, []), (.iconst (0), 1, 0, 0, 0, 0, []), (.istore 5, 2, 0, 0, 0, 0, []), (.nop, 0, 0, 6, 63, 0, [])]), (6, [(.iload 5, 2, 0, 0, 0, 0, []), (.iload_n 2, 1, 0, 0, 0, 0, []), (.if_icmp .ge (72), 3, 0, 81, 16, 0, []), (.aload_n 0, 1, 0, 0, 0, 0, []), (.aload_n 1, 1, 0, 0, 0, 0, []), (.invokestatic 9, 3, 1206, 227, 2, 1, []), (.iconst (0), 1, 0, 0, 0, 0, []), (.istore 6, 2, 0, 0, 0, 0, []), (.nop, 0, 0, 20, 127, 0, [])]), (20, [(.iload 6, 2, 0, 0, 0, 0, []), (.aload_n 0, 1, 0, 0, 0, 0, []), (.getfield 15, 3, 228, 7, 8, 0, []), (.if_icmp .ge (16), 3, 0, 42, 63, 0, []), (.aload_n 0, 1, 0, 0, 0, 0, []), (.aload_n 1, 1, 0, 0, 0, 0, []), (.iload 6, 2, 0, 0, 0, 0, []), (.invokestatic 21, 3, 1216, 228, 3, 1, []), (.iinc 6 (1), 3, 0, 1, 0, 0, []), (.goto (-19), 3, 0, 20, 127, 0, [])]), (42, [(.iload_n 3, 1, 0, 0, 0, 0, []), (.ifCond .eq (7), 3, 0, 50, 63, 0, []), (.aload_n 0, 1, 0, 0, 0, 0, []), (.invokestatic 25, 3, 1232, 229, 1, 1, []), (.nop, 0, 0, 50, 63, 0, [])]), (50, [(.iload 4, 2, 0, 0, 0, 0, []), (.aload_n 0, 1, 0, 0, 0, 0, []), (.invokestatic 29, 3, 1240, 230, 1, 1, []), (.iadd, 1, 0, 0, 0, 0, []), (.istore 4, 2, 0, 0, 0, 0, []), (.aload_n 0, 1, 0, 0, 0, 0, []), (.sipush (9999), 3, 0, 9999, 0, 0, []), (.aload_n 0, 1, 0, 0, 0, 0, []), (.getfield 33, 3, 255, 7, 15, 0, []), (.iconst (1), 1, 0, 1, 0, 0, []), (.iadd, 1, 0, 0, 0, 0, []), (.invokestatic 36, 3, 1211, 0, 0, 3, []), (.putfield 33, 3, 255, 7, 15, 0, []), (.iinc 5 (1), 3, 0, 1, 0, 0, []), (.goto (-72), 3, 0, 6, 63, 0, [])]), (81, [(.iload 4, 2, 0, 0, 0, 0, []), (.ireturn, 1, 0, 0, 0, 0, [])])]
def bk_227 : List (Nat × List mIt) := [(0, [(.iconst (0), 1, 0, 0, 0, 0, []), (.istore_n 2, 1, 0, 0, 0, 0, []), (.nop, 0, 0, 2, 7, 0, [])]), (2, [(.iload_n 2, 1, 0, 0, 0, 0, []), (.aload_n 0, 1, 0, 0, 0, 0, []), (.getfield 42, 3, 223, 7, 7, 0, []), (.if_icmp .ge (33), 3, 0, 40, 0, 0, []), (.aload_n 0, 1, 0, 0, 0, 0, []), (.iload_n 2, 1, 0, 0, 0, 0, []), (.invokevirtual 45, 3, 1209, 303, 2, 1, []), (.aload_n 1, 1, 0, 0, 0, 0, []), (.aload_n 0, 1, 0, 0, 0, 0, []), (.iload_n 2, 1, 0, 0, 0, 0, []), (.invokevirtual 49, 3, 1210, 258, 3, 1, []), (.iadd, 1, 0, 0, 0, 0, []), (.istore_n 3, 1, 0, 0, 0, 0, []), (.aload_n 0, 1, 0, 0, 0, 0, []), (.iload_n 2, 1, 0, 0, 0, 0, []), (.bipush (99), 2, 0, 99, 0, 0, []), (.iload_n 3, 1, 0, 0, 0, 0, []), (.invokestatic 36, 3, 1211, 0, 0, 3, []), (.invokevirtual 55, 3, 1212, 304, 3, 1, []), (.iinc 2 (1), 3, 0, 1, 0, 0, []), (.goto (-35), 3, 0, 2, 7, 0, [])]), (40, [(.return_, 1, 0, 0, 0, 0, [])])]
def bk_228 : List (Nat × List mIt) := [(0, [(.iconst (-1), 1, 0, 1, 0, 1, []), (.istore_n 3, 1, 0, 0, 0, 0, []), (.iconst (0), 1, 0, 0, 0, 0, []), (.istore 4, 2, 0, 0, 0, 0, []), (.iconst (0), 1, 0, 0, 0, 0, []), (.istore 5, 2, 0, 0, 0, 0, []), (.iconst (0), 1, 0, 0, 0, 0, []), (.istore 6, 2, 0, 0, 0, 0, []), (.nop, 0, 0, 11, 127, 0, [])]), (11, [(.iload 6, 2, 0, 0, 0, 0, []), (.aload_n 0, 1, 0, 0, 0, 0, []), (.getfield 42, 3, 223, 7, 7, 0, []), (.if_icmp .ge (63), 3, 0, 80, 61, 0, []), (.aload_n 0, 1, 0, 0, 0, 0, []), (.iload 6, 2, 0, 0, 0, 0, []), (.invokevirtual 45, 3, 1209, 303, 2, 1, []), (.iload 4, 2, 0, 0, 0, 0, []), (.if_icmp .le (46), 3, 0, 74, 127, 0, []), (.aload_n 0, 1, 0, 0, 0, 0, []), (.iload_n 2, 1, 0, 0, 0, 0, []), (.iload 6, 2, 0, 0, 0, 0, []), (.invokevirtual 59, 3, 1219, 314, 3, 1, []), (.ifCond .eq (36), 3, 0, 74, 127, 0, []), (.aload_n 1, 1, 0, 0, 0, 0, []), (.aload_n 0, 1, 0, 0, 0, 0, []), (.iload 6, 2, 0, 0, 0, 0, []), (.invokevirtual 63, 3, 1220, 259, 3, 1, []), (.istore 7, 2, 0, 0, 0, 0, []), (.iload 7, 2, 0, 0, 0, 0, []), (.aload_n 0, 1, 0, 0, 0, 0, []), (.getfield 66, 3, 251, 7, 14, 0, []), (.if_icmp .gt (18), 3, 0, 74, 127, 0, []), (.iload 6, 2, 0, 0, 0, 0, []), (.istore_n 3, 1, 0, 0, 0, 0, []), (.aload_n 0, 1, 0, 0, 0, 0, []), (.iload 6, 2, 0, 0, 0, 0, []), (.invokevirtual 45, 3, 1209, 303, 2, 1, []), (.istore 4, 2, 0, 0, 0, 0, []), (.iload 7, 2, 0, 0, 0, 0, []), (.istore 5, 2, 0, 0, 0, 0, []), (.nop, 0, 0, 74, 127, 0, [])]), (74, [(.iinc 6 (1), 3, 0, 1, 0, 0, []), (.goto (-66), 3, 0, 11, 127, 0, [])]), (80, [(.iload_n 3, 1, 0, 0, 0, 0, []), (.iconst (-1), 1, 0, 1, 0, 1, []), (.if_icmp .eq (49), 3, 0, 131, 0, 0, []), (.iload 4, 2, 0, 0, 0, 0, []), (.aload_n 0, 1, 0, 0, 0, 0, []), (.iload_n 2, 1, 0, 0, 0, 0, []), (.invokevirtual 69, 3, 1221, 312, 2, 1, []), (.invokestatic 36, 3, 1211, 0, 0, 3, []), (.istore 6, 2, 0, 0, 0, 0, []), (.aload_n 0, 1, 0, 0, 0, 0, []), (.dup, 1, 0, 0, 0, 0, []), (.getfield 66, 3, 251, 7, 14, 0, []), (.iload 5, 2, 0, 0, 0, 0, []), (.isub, 1, 0, 0, 0, 0, []), (.putfield 66, 3, 251, 7, 14, 0, []), (.aload_n 0, 1, 0, 0, 0, 0, []), (.iload_n 3, 1, 0, 0, 0, 0, []), (.iload 6, 2, 0, 0, 0, 0, []), (.invokevirtual 72, 3, 1222, 315, 3, 1, []), (.aload_n 0, 1, 0, 0, 0, 0, []), (.getfield 75, 3, 220, 7, 6, 0, []), (.aload_n 0, 1, 0, 0, 0, 0, []), (.getfield 33, 3, 255, 7, 15, 0, []), (.iload_n 2, 1, 0, 0, 0, 0, []), (.iconst (0), 1, 0, 0, 0, 0, []), (.iload_n 3, 1, 0, 0, 0, 0, []), (.iload 6, 2, 0, 0, 0, 0, []), (.invokevirtual 81, 3, 1227, 265, 6, 1, []), (.nop, 0, 0, 131, 0, 0, [])]), (131, [(.return_, 1, 0, 0, 0, 0, [])])]
def bk_229 : List (Nat × List mIt) := [(0, [(.aload_n 0, 1, 0, 0, 0, 0, []), (.aload_n 0, 1, 0, 0, 0, 0, []), (.invokevirtual 85, 3, 1235, 328, 1, 1, []), (.bipush (100), 2, 0, 100, 0, 0, []), (.irem, 1, 0, 0, 0, 0, []), (.aload_n 0, 1, 0, 0, 0, 0, []), (.getfield 89, 3, 243, 7, 12, 0, []), (.if_icmp .ge (7), 3, 0, 19, 1, 0, []), (.iconst (1), 1, 0, 1, 0, 0, []), (.goto (4), 3, 0, 20, 1, 0, [])]), (19, [(.iconst (0), 1, 0, 0, 0, 0, []), (.nop, 0, 0, 20, 1, 0, [])]), (20, [(.putfield 92, 3, 261, 7, 16, 1, []), (.aload_n 0, 1, 0, 0, 0, 0, []), (.getfield 92, 3, 261, 7, 16, 0, []), (.ifCond .eq (24), 3, 0, 51, 1, 0, []), (.aload_n 0, 1, 0, 0, 0, 0, []), (.getfield 96, 3, 216, 7, 5, 0, []), (.iconst (5), 1, 0, 5, 0, 0, []), (.dup2, 1, 0, 0, 0, 0, []), (.iaload, 1, 0, 0, 0, 0, []), (.iconst (2), 1, 0, 2, 0, 0, []), (.idiv, 1, 0, 0, 0, 0, []), (.iastore, 1, 0, 0, 0, 0, []), (.aload_n 0, 1, 0, 0, 0, 0, []), (.getfield 96, 3, 216, 7, 5, 0, []), (.bipush (6), 2, 0, 6, 0, 0, []), (.dup2, 1, 0, 0, 0, 0, []), (.iaload, 1, 0, 0, 0, 0, []), (.iconst (2), 1, 0, 2, 0, 0, []), (.idiv, 1, 0, 0, 0, 0, []), (.iastore, 1, 0, 0, 0, 0, []), (.nop, 0, 0, 51, 1, 0, [])]), (51, [(.aload_n 0, 1, 0, 0, 0, 0, []), (.invokevirtual 85, 3, 1235, 328, 1, 1, []), (.bipush (100), 2, 0, 100, 0, 0, []), (.irem, 1, 0, 0, 0, 0, []), (.aload_n 0, 1, 0, 0, 0, 0, []), (.getfield 100, 3, 247, 7, 13, 0, []), (.if_icmp .ge (13), 3, 0, 75, 0, 0, []), (.aload_n 0, 1, 0, 0, 0, 0, []), (.getfield 96, 3, 216, 7, 5, 0, []), (.iconst (4), 1, 0, 4, 0, 0, []), (.dup2, 1, 0, 0, 0, 0, []), (.iaload, 1, 0, 0, 0, 0, []), (.iconst (2), 1, 0, 2, 0, 0, []), (.idiv, 1, 0, 0, 0, 0, []), (.iastore, 1, 0, 0, 0, 0, []), (.nop, 0, 0, 75, 0, 0, [])]), (75, [(.return_, 1, 0, 0, 0, 0, [])])]
def bk_230 : List (Nat × List mIt) := [(0, [(.iconst (0), 1, 0, 0, 0, 0, []), (.istore_n 1, 1, 0, 0, 0, 0, []), (.iconst (0), 1, 0, 0, 0, 0, []), (.istore_n 2, 1, 0, 0, 0, 0, []), (.nop, 0, 0, 4, 7, 0, [])]), (4, [(.iload_n 2, 1, 0, 0, 0, 0, []), (.aload_n 0, 1, 0, 0, 0, 0, []), (.getfield 103, 3, 238, 7, 10, 0, []), (.if_icmp .ge (26), 3, 0, 35, 2, 0, []), (.aload_n 0, 1, 0, 0, 0, 0, []), (.iload_n 2, 1, 0, 0, 0, 0, []), (.invokevirtual 106, 3, 1243, 326, 2, 1, []), (.ifCond .eq (12), 3, 0, 29, 7, 0, []), (.aload_n 0, 1, 0, 0, 0, 0, []), (.iload_n 2, 1, 0, 0, 0, 0, []), (.iconst (1), 1, 0, 1, 0, 0, []), (.invokevirtual 110, 3, 1244, 327, 3, 1, []), (.iinc 1 (1), 3, 0, 1, 0, 0, []), (.nop, 0, 0, 29, 7, 0, [])]), (29, [(.iinc 2 (1), 3, 0, 1, 0, 0, []), (.goto (-28), 3, 0, 4, 7, 0, [])]), (35, [(.iload_n 1, 1, 0, 0, 0, 0, []), (.ireturn, 1, 0, 0, 0, 0, [])])]
theorem jb_226 : mjb tb tbN (tb 226) bk_226 = true := by decide +kernel
theorem jb_227 : mjb tb tbN (tb 227) bk_227 = true := by decide +kernel
theorem jb_228 : mjb tb tbN (tb 228) bk_228 = true := by decide +kernel
theorem jb_229 : mjb tb tbN (tb 229) bk_229 = true := by decide +kernel
theorem jb_230 : mjb tb tbN (tb 230) bk_230 = true := by decide +kernel
end
