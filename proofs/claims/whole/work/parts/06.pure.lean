/-! WHAT THE TABLES SAY of an instruction; instructions of the stack and the locals -/
abbrev vwCl : List vw_C := [(RX1, TX1, 5), (RX2, TX2, 4), (RX3, TX3, 8), (RX4, TX4, 3), (RX5, TX5, 3), (RX6, TX6, 3), (RX7, TX7, 4), (RX8, TX8, 18), (RX9, TX9, 6), (RX10, TX10, 15), (RX11, TX11, 25)]
def gtbl : List Cond := lw_tbl.filter goodWord
/-- the word at a place of the tables -/
def mwat (k : Nat) (x : Cond) : Bool := decide (lw_tbl[k]? = some x) && goodWord x
theorem mword {args : Array Value} {s : State} (hts : ∀ w ∈ gtbl, w.before args s = true) {k : Nat} {x : Cond} (h : mwat k x = true) : x.before args s = true := by
  unfold mwat at h
  rw [Bool.and_eq_true, decide_eq_true_eq] at h
  exact hts x (List.mem_filter.mpr ⟨List.mem_of_getElem? h.1, h.2⟩)
def mlit (a d : Nat) : Int32 := match d with | 0 => nI a | _ => -(nI a)
/-- a text of the table: class, entry, number, text -/
abbrev mTx : Type := String × Nat × Nat × String
def mtxb (tx : List mTx) (own : String) (k a : Nat) : Bool := tx.any fun q => decide (q.1 = own) && (decide (q.2.1 = k) && decide (q.2.2.1 = a))
theorem mtxb_at {tx : List mTx} {own : String} {k a : Nat} (h : mtxb tx own k a = true) : ∃ t, (own, k, a, t) ∈ tx := by
  obtain ⟨q, hq, h2⟩ := List.any_eq_true.mp h
  simp only [Bool.and_eq_true, decide_eq_true_eq] at h2
  obtain ⟨o, k', a', t⟩ := q
  obtain ⟨rfl, rfl, rfl⟩ := h2
  exact ⟨t, hq⟩
def mcon (tx : List mTx) (own : String) (k w a d : Nat) : Bool := match d with
  | 0 => mwat w (.constant own k (nI a))
  | 1 => mwat w (.constant own k (-(nI a)))
  | _ => mtxb tx own k a
/-- checks of the instructions in mpu -/
def mfp (tx : List mTx) (own : String) (i : Instr) (len w a d : Nat) : Bool := match i with
  | .iconst z => decide (len = 1) && decide (Int32.ofInt z = mlit a d)
  | .bipush z => decide (len = 2) && decide ((Int8.ofInt z).toInt32 = mlit a d)
  | .sipush z => decide (len = 3) && decide ((Int16.ofInt z).toInt32 = mlit a d)
  | .ldc k => decide (len = 2) && mcon tx own k w a d
  | .ldc_w k => decide (len = 3) && mcon tx own k w a d
  | .ldc2_w k => decide (len = 3) && mwat w (.constantLong own k (lN a))
  | .lconst k => decide (len = 1) && decide (Int64.ofNat k.val = lN a)
  | .iload _ => decide (len = 2)
  | .lload _ => decide (len = 2)
  | .aload _ => decide (len = 2)
  | .iload_n _ => decide (len = 1)
  | .lload_n _ => decide (len = 1)
  | .aload_n _ => decide (len = 1)
  | .iadd => decide (len = 1)
  | .isub => decide (len = 1)
  | .imul => decide (len = 1)
  | .iand => decide (len = 1)
  | .ior => decide (len = 1)
  | .ixor => decide (len = 1)
  | .ishl => decide (len = 1)
  | .ishr => decide (len = 1)
  | .iushr => decide (len = 1)
  | .ineg => decide (len = 1)
  | .i2l => decide (len = 1)
  | .l2i => decide (len = 1)
  | .ladd => decide (len = 1)
  | .lmul => decide (len = 1)
  | .lcmp => decide (len = 1)
  | .dup => decide (len = 1)
  | .dup2 => decide (len = 1)
  | .pop => decide (len = 1)
  | _ => false
section MPU
variable {p : Program} {l : Launch} {e : Env} {R : Room} {s : State} {m : MethodId} {args : Array Value} {below : List Frame} {meth : Method} {c : Code} {H : Heap} {locs : List Loc} {cells slots : Nat} {Q : State → Prop}
theorem mW_ldcSw {cc : ByteArray} {pc : Nat} {ls : Array Slot} {rest : List Value} (hexec : p.tables.exec = Jvm.exec) (hb : c.code = cc) {own tx : String} {index q : Nat} (hown : s.vm.findClass own = some m.cls) (hZ : vk_R own index tx q s) (hdg : decode cc pc = .ok (.ldc_w index, 3))
    (k : W p l e R s m args below meth c H locs cells slots Q (F0 m (pc + 3) ls (.ref q :: rest))) : W p l e R s m args below meth c H locs cells slots Q (F0 m pc ls rest) := by
  intro T hT X
  obtain ⟨t, a1, b1⟩ := k T hT X
  exact ⟨t, X.ldcStringW hexec hown (text := tx) (a := q) hZ.1 hZ.2 (g := F0 m pc ls rest) rfl (by rw [hb]; exact hdg) t a1, b1⟩
theorem mW_pu {cc : ByteArray} {own : String} {nL pc : Nat} {ls : Array Slot} {tx : List mTx} {ad : Nat → Nat} {i : Instr} {len w a d : Nat} {L : mLc} {st st2 : List Value} (hx : p.tables.exec = Jvm.exec) (hb : c.code = cc) (hown : s.vm.findClass own = some m.cls) (hts : ∀ w ∈ gtbl, w.before args s = true)
    (htx : ∀ q ∈ tx, vk_R q.1 q.2.1 q.2.2.2 (ad (1000 + q.2.2.1)) s) (hd : decode cc pc = .ok (i, len)) (hf : mfp tx own i len w a d = true) (hp : mpu i a d L st = some st2) (hL : mLR ad ls nL L)
    (k : W p l e R s m args below meth c H locs cells slots Q (F0 m (pc + len) ls (st2.map (mvm ad)))) : W p l e R s m args below meth c H locs cells slots Q (F0 m pc ls (st.map (mvm ad))) := by
  have hat : ∀ (j : Nat) (v : Value), mnx L j = some (some v) → ls[j]? = some (.val (mvm ad v)) := fun j v h => hL.2.2 j v (by rw [← mnx_eq]; exact h)
  cases i <;> simp only [mfp, Bool.and_eq_true, decide_eq_true_eq, Bool.false_eq_true] at hf <;> simp only [mpu] at hp
  case aload j =>
    subst hf
    split at hp
    · rename_i x hj; cases hp; exact lv_aload hx hb hd (hat j _ hj) k
    · cases hp
  case aload_n j =>
    subst hf
    split at hp
    · rename_i x hj; cases hp; exact lv_aload_n hx hb hd rfl (hat _ _ hj) k
    · cases hp
  case bipush z => obtain ⟨rfl, h⟩ := hf; cases hp; exact lv_bipush hx hb hd h k
  case dup =>
    subst hf
    split at hp
    · cases hp; exact lv_dup hx hb hd rfl k
    · cases hp; exact lv_dup hx hb hd rfl k
    · cases hp
  case dup2 =>
    subst hf
    split at hp
    · cases hp; exact lv_dup2_11 hx hb hd rfl rfl k
    · cases hp
  case i2l =>
    subst hf
    split at hp
    · cases hp; exact lv_i2l hx hb hd rfl k
    · cases hp
  case iadd =>
    subst hf
    split at hp
    · cases hp; exact lv_iadd hx hb hd k
    · cases hp
  case iand =>
    subst hf
    split at hp
    · cases hp; exact lv_iand hx hb hd k
    · cases hp
  case iconst z => obtain ⟨rfl, h⟩ := hf; cases hp; exact lv_iconst hx hb hd h k
  case iload j =>
    subst hf
    split at hp
    · rename_i x hj; cases hp; exact lv_iload hx hb hd (hat j _ hj) k
    · cases hp
  case iload_n j =>
    subst hf
    split at hp
    · rename_i x hj; cases hp; exact lv_iload_n hx hb hd rfl (hat _ _ hj) k
    · cases hp
  case imul =>
    subst hf
    split at hp
    · cases hp; exact lv_imul hx hb hd k
    · cases hp
  case ineg =>
    subst hf
    split at hp
    · cases hp; exact lv_ineg hx hb hd k
    · cases hp
  case ior =>
    subst hf
    split at hp
    · cases hp; exact lv_ior hx hb hd k
    · cases hp
  case ishl =>
    subst hf
    split at hp
    · cases hp; exact lv_ishl hx hb hd k
    · cases hp
  case ishr =>
    subst hf
    split at hp
    · cases hp; exact lv_ishr hx hb hd k
    · cases hp
  case isub =>
    subst hf
    split at hp
    · cases hp; exact lv_isub hx hb hd k
    · cases hp
  case iushr =>
    subst hf
    split at hp
    · cases hp; exact lv_iushr hx hb hd rfl k
    · cases hp
  case ixor =>
    subst hf
    split at hp
    · cases hp; exact lv_ixor hx hb hd k
    · cases hp
  case l2i =>
    subst hf
    split at hp
    · cases hp; exact lv_l2i hx hb hd rfl k
    · cases hp
  case ladd =>
    subst hf
    split at hp
    · cases hp; exact lv_ladd hx hb hd k
    · cases hp
  case lcmp =>
    subst hf
    split at hp
    · cases hp; exact W.lcmp hx hb hd k
    · cases hp
  case lconst z => obtain ⟨rfl, h⟩ := hf; cases hp; exact lv_lconst hx hb hd h k
  case ldc j =>
    obtain ⟨rfl, h⟩ := hf
    cases hp
    rcases d with _ | _ | d
    · exact lv_ldc hx hb hown (mword hts h) hd k
    · exact lv_ldc hx hb hown (mword hts h) hd k
    · obtain ⟨t, ht⟩ := mtxb_at h
      exact va_ldcS hx hb hown (htx _ ht) hd k
  case ldc_w j =>
    obtain ⟨rfl, h⟩ := hf
    cases hp
    rcases d with _ | _ | d
    · exact lv_ldcw hx hb hown (mword hts h) hd k
    · exact lv_ldcw hx hb hown (mword hts h) hd k
    · obtain ⟨t, ht⟩ := mtxb_at h
      exact mW_ldcSw hx hb hown (htx _ ht) hd k
  case ldc2_w j =>
    obtain ⟨rfl, h⟩ := hf
    cases hp
    exact lv_ldc2 hx hb hown (mword hts h) hd k
  case lload j =>
    subst hf
    split at hp
    · rename_i x hj; cases hp; exact lv_lload hx hb hd (hat j _ hj) k
    · cases hp
  case lload_n j =>
    subst hf
    split at hp
    · rename_i x hj; cases hp; exact lv_lload_n hx hb hd rfl (hat _ _ hj) k
    · cases hp
  case lmul =>
    subst hf
    split at hp
    · cases hp; exact lv_lmul hx hb hd k
    · cases hp
  case pop =>
    subst hf
    split at hp
    · cases hp; exact lv_pop hx hb hd rfl k
    · cases hp; exact lv_pop hx hb hd rfl k
    · cases hp
  case sipush z => obtain ⟨rfl, h⟩ := hf; cases hp; exact lv_sipush hx hb hd h k
end MPU
