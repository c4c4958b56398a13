/-! FIELDS AND ROWS: instructions that read and write the world -/
def mtys (cy : mCy) : List (ClassId × FieldType) := [(cy.1, .int), (cy.2.1, .long), (cy.2.2, .object "DustYard$State")]
theorem mgood {w : Cond} (k : Nat) (h : mwat k w = true) : w ∈ gtbl := by
  unfold mwat at h
  rw [Bool.and_eq_true, decide_eq_true_eq] at h
  exact List.mem_filter.mpr ⟨List.mem_of_getElem? h.1, h.2⟩
theorem vcl_in1 : ∀ w ∈ u_ws RX1 TX1 5, w ∈ gtbl := by decide +kernel
theorem vcl_in2 : ∀ w ∈ u_ws RX2 TX2 4, w ∈ gtbl := by decide +kernel
theorem vcl_in3 : ∀ w ∈ u_ws RX3 TX3 8, w ∈ gtbl := by decide +kernel
theorem vcl_in4 : ∀ w ∈ u_ws RX4 TX4 3, w ∈ gtbl := by decide +kernel
theorem vcl_in5 : ∀ w ∈ u_ws RX5 TX5 3, w ∈ gtbl := by decide +kernel
theorem vcl_in6 : ∀ w ∈ u_ws RX6 TX6 3, w ∈ gtbl := by decide +kernel
theorem vcl_in7 : ∀ w ∈ u_ws RX7 TX7 4, w ∈ gtbl := by decide +kernel
theorem vcl_in8 : ∀ w ∈ u_ws RX8 TX8 18, w ∈ gtbl := by decide +kernel
theorem vcl_in9 : ∀ w ∈ u_ws RX9 TX9 6, w ∈ gtbl := by decide +kernel
theorem vcl_in10 : ∀ w ∈ u_ws RX10 TX10 15, w ∈ gtbl := by decide +kernel
theorem vcl_in11 : ∀ w ∈ u_ws RX11 TX11 25, w ∈ gtbl := by decide +kernel
/-- what the tables say of the classes -/
theorem vcl_ok : ∀ (a : Nat) (q : vw_C), vwCl[a]? = some q → (∀ w ∈ u_ws q.1 q.2.1 q.2.2, w ∈ gtbl) ∧ ∃ ty0 : Nat → FieldType, (∀ k, k < q.2.2 → parseFieldDescriptor (q.2.1 k).2.2.1 = some (ty0 k)) ∧ ∀ a, a < q.2.2 → ∀ b, b < q.2.2 → a ≠ b → (q.2.1 a).2.1 ≠ (q.2.1 b).2.1
  | 0, q, h => by cases h; exact ⟨vcl_in1, tyX1, tyX1_ok, nmX1⟩
  | 1, q, h => by cases h; exact ⟨vcl_in2, tyX2, tyX2_ok, nmX2⟩
  | 2, q, h => by cases h; exact ⟨vcl_in3, tyX3, tyX3_ok, nmX3⟩
  | 3, q, h => by cases h; exact ⟨vcl_in4, tyX4, tyX4_ok, nmX4⟩
  | 4, q, h => by cases h; exact ⟨vcl_in5, tyX5, tyX5_ok, nmX5⟩
  | 5, q, h => by cases h; exact ⟨vcl_in6, tyX6, tyX6_ok, nmX6⟩
  | 6, q, h => by cases h; exact ⟨vcl_in7, tyX7, tyX7_ok, nmX7⟩
  | 7, q, h => by cases h; exact ⟨vcl_in8, tyX8, tyX8_ok, nmX8⟩
  | 8, q, h => by cases h; exact ⟨vcl_in9, tyX9, tyX9_ok, nmX9⟩
  | 9, q, h => by cases h; exact ⟨vcl_in10, tyX10, tyX10_ok, nmX10⟩
  | 10, q, h => by cases h; exact ⟨vcl_in11, tyX11, tyX11_ok, nmX11⟩
  | n + 11, q, h => by simp [vwCl] at h
/-- a method's fixed facts: the machine, its code, its class, the words, the classes; A what it may change -/
def mHy (p : Program) (s : State) (m : MethodId) (args : Array Value) (c : Code) (own : String) (cc : ByteArray) (nL : Nat) (D : va_G) (cy : mCy) (A : Nat → Prop) : Prop :=
  p.tables.exec = Jvm.exec ∧ c.code = cc ∧ c.maxLocals = nL ∧ s.vm.findClass own = some m.cls ∧ (∀ w ∈ gtbl, w.before args s = true) ∧ va_K D vwCl (mtys cy) s ∧ ∀ q, s.heap.size ≤ q → A q
/-- where it stands -/
def mRl (s : State) (D : va_G) (cy : mCy) (A : Nat → Prop) (nL : Nat) (ad : Nat → Nat) (L : mLc) (sh : List mSh) (σ : mSg) (H : Heap) (locs : List Loc) (ls : Array Slot) : Prop :=
  va_P D vwCl (mwd cy ad σ 0 sh) H ∧ va_D A (mwd cy ad σ 0 sh) ∧ va_S A s.heap H locs ∧ mLR ad ls nL L
/-- a field's link -/
def mffb (own : String) (idx w a b : Nat) : Bool := match vwCl[a]? with
  | some (_, T, N) => Nat.blt b N && mwat w (.fieldLink own idx (T b).1 (T b).2.1 (T b).2.2.1)
  | none => false
/-- a field that may be told: d 0 an int, 1 a boolean, 2 a final reference in a constructor -/
def mfpb (own : String) (init : Bool) (a b d : Nat) : Bool := match vwCl[a]? with
  | some (_, T, _) => (match d with
    | 0 => decide ((T b).2.2.2 = false) && decide (parseFieldDescriptor (T b).2.2.1 = some .int)
    | 1 => decide ((T b).2.2.2 = false) && decide (parseFieldDescriptor (T b).2.2.1 = some .boolean)
    | 2 => decide ((T b).2.2.2 = true) && (init && (decide ((T b).1 = own) && (match parseFieldDescriptor (T b).2.2.1 with | some (.object _) => true | some (.array _) => true | _ => false)))
    | _ => false)
  | none => false
theorem mnar_bool {x : Int32} (h : x = 0 ∨ x = 1) : narrow .boolean (.int x) = .int x ∧ fits .boolean (.int x) = true := by
  rcases h with rfl | rfl <;> exact ⟨by decide +kernel, by decide +kernel⟩
section MHP
variable {p : Program} {l : Launch} {e : Env} {R : Room} {s : State} {m : MethodId} {args : Array Value} {below : List Frame} {meth : Method} {c : Code} {H : Heap} {locs : List Loc} {cells slots : Nat} {Q : State → Prop}
variable {own : String} {cc : ByteArray} {nL : Nat} {D : va_G} {cy : mCy} {A : Nat → Prop} {pc : Nat} {ad : Nat → Nat} {L : mLc} {sh : List mSh} {σ : mSg} {ls : Array Slot} {rest : List Value}
theorem mW_get {idx w a b r : Nat} {fs : List mFs} {x : mFs} (hy : mHy p s m args c own cc nL D cy A) (h : mRl s D cy A nL ad L sh σ H locs ls) (hd : decode cc pc = .ok (.getfield idx, 3)) (hf : mffb own idx w a b = true) (hr : mnx sh r = some (.inl (a, fs))) (hb : mnx fs b = some x)
    (kk : W p l e R s m args below meth c H locs cells slots Q (F0 m (pc + 3) ls (mfe ad (σ r) b x :: rest))) : W p l e R s m args below meth c H locs cells slots Q (F0 m pc ls (.ref (ad r) :: rest)) := by
  obtain ⟨hx, hbc, hml, hown, hts, hK, hA⟩ := hy
  obtain ⟨hP, hD, hS, hL⟩ := h
  rw [mnx_eq] at hr hb
  unfold mffb at hf
  split at hf
  · rename_i C T N hc
    rw [Bool.and_eq_true] at hf
    exact va_get (C := C) (T := T) (N := N) hx hbc hts (vcl_ok a _ hc).1 hown hK hP r (mwd_at hr) hc b (Nat.le_of_ble_eq_true hf.1) (mword hts hf.2) (fun _ h9 => h9) (v := mfe ad (σ r) b x) (by rw [mfv_get, hb, Nat.zero_add]; rfl) hd kk
  · cases hf
theorem mW_put {idx w a b d r : Nat} {fs : List mFs} {x : Int32} (hy : mHy p s m args c own cc nL D cy A) (h : mRl s D cy A nL ad L sh σ H locs ls) (hd : decode cc pc = .ok (.putfield idx, 3)) (hf : mffb own idx w a b = true) {init : Bool} (hg : mfpb own init a b d = true) (hr : mnx sh r = some (.inl (a, fs))) (hb : mnx fs b = some none) (hxd : d = 0 ∨ (d = 1 ∧ (x = 0 ∨ x = 1)))
    (kk : ∀ (H1 : Heap) (locs1 : List Loc), mRl s D cy A nL ad L sh (mput σ r b x) H1 locs1 ls → W p l e R s m args below meth c H1 locs1 cells slots Q (F0 m (pc + 3) ls rest)) : W p l e R s m args below meth c H locs cells slots Q (F0 m pc ls (.int x :: .ref (ad r) :: rest)) := by
  obtain ⟨hx, hbc, hml, hown, hts, hK, hA⟩ := hy
  obtain ⟨hP, hD, hS, hL⟩ := h
  rw [mnx_eq] at hr hb
  unfold mffb at hf
  split at hf
  · rename_i C T N hc
    rw [Bool.and_eq_true] at hf
    have hbN := Nat.le_of_ble_eq_true hf.1
    obtain ⟨hin, ty0, hty, hnm⟩ := vcl_ok a _ hc
    have hset : (mwd cy ad σ 0 sh).set r (ad r, .inr (a, (mfv ad (σ r) 0 fs).set b (.int x))) = mwd cy ad (mput σ r b x) 0 sh := mwd_set0 hr (by simp only [mce]; rw [mput_eq, mfv_put hb]) (fun q hq => mput_ne hq)
    have key : ∃ ty, (T b).2.2.2 = false ∧ parseFieldDescriptor (T b).2.2.1 = some ty ∧ narrow ty (.int x) = .int x ∧ fits ty (.int x) = true := by
      unfold mfpb at hg
      rw [hc] at hg
      rcases hxd with rfl | ⟨rfl, hx01⟩
      · simp only [Bool.and_eq_true, decide_eq_true_eq] at hg
        exact ⟨.int, hg.1, hg.2, rfl, rfl⟩
      · simp only [Bool.and_eq_true, decide_eq_true_eq] at hg
        exact ⟨.boolean, hg.1, hg.2, (mnar_bool hx01).1, (mnar_bool hx01).2⟩
    obtain ⟨ty, k1, k2, k3, k4⟩ := key
    refine va_put (C := C) (T := T) (N := N) hx hbc hts hin ty0 hty hnm hown hK hP hD hS r (mwd_at hr) hc b hbN (mword hts hf.2) (fun _ h9 => h9) k1 k2 k3 k4 (by rw [mfv_len]; exact (List.getElem?_eq_some_iff.mp hb).1) hd (fun H1 locs1 hP1 hD1 hS1 => ?_)
    rw [hset] at hP1 hD1
    exact kk H1 locs1 ⟨hP1, hD1, hS1, hL⟩
  · cases hf
theorem mW_putR {idx w a b r q : Nat} {fs : List mFs} {y : Option Nat} (hy : mHy p s m args c own cc nL D cy A) (h : mRl s D cy A nL ad L sh σ H locs ls) (hd : decode cc pc = .ok (.putfield idx, 3)) (hf : mffb own idx w a b = true) (hin2 : meth.name = "<init>") (hg : mfpb own true a b 2 = true) (hr : mnx sh r = some (.inl (a, fs))) (hb : mnx fs b = some (some y))
    (kk : ∀ (H1 : Heap) (locs1 : List Loc), mRl s D cy A nL ad L (mse sh r (.inl (a, mse fs b (some (some q))))) σ H1 locs1 ls → W p l e R s m args below meth c H1 locs1 cells slots Q (F0 m (pc + 3) ls rest)) : W p l e R s m args below meth c H locs cells slots Q (F0 m pc ls (.ref (ad q) :: .ref (ad r) :: rest)) := by
  obtain ⟨hx, hbc, hml, hown, hts, hK, hA⟩ := hy
  obtain ⟨hP, hD, hS, hL⟩ := h
  rw [mnx_eq] at hr hb
  rw [mse_eq, mse_eq] at kk
  unfold mffb at hf
  split at hf
  · rename_i C T N hc
    rw [Bool.and_eq_true] at hf
    have hbN := Nat.le_of_ble_eq_true hf.1
    have hbl := (List.getElem?_eq_some_iff.mp hb).1
    obtain ⟨hin, ty0, hty, hnm⟩ := vcl_ok a _ hc
    have hset : (mwd cy ad σ 0 sh).set r (ad r, .inr (a, (mfv ad (σ r) 0 fs).set b (.ref (ad q)))) = mwd cy ad σ 0 (sh.set r (.inl (a, fs.set b (some (some q))))) := mwd_set (List.getElem?_eq_some_iff.mp hr).1 rfl (by simp only [mce]; rw [mfv_putR hbl]) (fun _ _ => rfl)
    unfold mfpb at hg
    rw [hc] at hg
    simp only [Bool.and_eq_true, decide_eq_true_eq, Bool.true_and] at hg
    obtain ⟨k1, k2, k3⟩ := hg
    have key : ∃ ty, parseFieldDescriptor (T b).2.2.1 = some ty ∧ narrow ty (.ref (ad q)) = .ref (ad q) ∧ fits ty (.ref (ad q)) = true := by
      split at k3
      · rename_i z hz; exact ⟨_, hz, rfl, rfl⟩
      · rename_i z hz; exact ⟨_, hz, rfl, rfl⟩
      · cases k3
    obtain ⟨ty, k4, k5, k6⟩ := key
    refine va_putF (C := C) (T := T) (N := N) hx hbc hts hin ty0 hty hnm hown hK hP hD hS r (mwd_at hr) hc b hbN (mword hts hf.2) (fun _ h9 => h9) k1 hin2 k2 k4 k5 k6 (by rw [mfv_len]; exact hbl) hd (fun H1 locs1 hP1 hD1 hS1 => ?_)
    rw [hset] at hP1 hD1
    exact kk H1 locs1 ⟨hP1, hD1, hS1, hL⟩
  · cases hf
theorem mW_iald {r N : Nat} {x : Int32} (hy : mHy p s m args c own cc nL D cy A) (h : mRl s D cy A nL ad L sh σ H locs ls) (hd : decode cc pc = .ok (.iaload, 1)) (hr : mnx sh r = some (.inr (.inl N))) (hx : vp_in x N)
    (kk : W p l e R s m args below meth c H locs cells slots Q (F0 m (pc + 1) ls (.int (σ r x.toNatClampNeg) :: rest))) : W p l e R s m args below meth c H locs cells slots Q (F0 m pc ls (.int x :: .ref (ad r) :: rest)) := by
  obtain ⟨hex, hbc, hml, hown, hts, hK, hA⟩ := hy
  obtain ⟨hP, hD, hS, hL⟩ := h
  rw [mnx_eq] at hr
  exact va_iald hex hbc hK hP r 0 (mwd_at hr) rfl hx hd kk
theorem mW_iast {r N : Nat} {x v : Int32} (hy : mHy p s m args c own cc nL D cy A) (h : mRl s D cy A nL ad L sh σ H locs ls) (hd : decode cc pc = .ok (.iastore, 1)) (hr : mnx sh r = some (.inr (.inl N))) (hx : vp_in x N)
    (kk : ∀ (H1 : Heap) (locs1 : List Loc), mRl s D cy A nL ad L sh (mput σ r x.toNatClampNeg v) H1 locs1 ls → W p l e R s m args below meth c H1 locs1 cells slots Q (F0 m (pc + 1) ls rest)) : W p l e R s m args below meth c H locs cells slots Q (F0 m pc ls (.int v :: .int x :: .ref (ad r) :: rest)) := by
  obtain ⟨hex, hbc, hml, hown, hts, hK, hA⟩ := hy
  obtain ⟨hP, hD, hS, hL⟩ := h
  rw [mnx_eq] at hr
  have hset : (mwd cy ad σ 0 sh).set r (ad r, .inl (cy.1, N, .inl (upd (σ r) x.toNatClampNeg v))) = mwd cy ad (mput σ r x.toNatClampNeg v) 0 sh := mwd_set0 hr (by simp only [mce]; rw [mput_eq]) (fun q hq => mput_ne hq)
  refine va_iast hex hbc hK hP hD hS r 0 (mwd_at hr) rfl hx hd (fun H1 locs1 hP1 hD1 hS1 => ?_)
  rw [hset] at hP1 hD1
  exact kk H1 locs1 ⟨hP1, hD1, hS1, hL⟩
theorem mW_lald {r N : Nat} {x : Int32} (hy : mHy p s m args c own cc nL D cy A) (h : mRl s D cy A nL ad L sh σ H locs ls) (hd : decode cc pc = .ok (.laload, 1)) (hr : mnx sh r = some (.inr (.inr (.inl N)))) (hx : vp_in x N)
    (kk : W p l e R s m args below meth c H locs cells slots Q (F0 m (pc + 1) ls (.long (σ r x.toNatClampNeg).toInt64 :: rest))) : W p l e R s m args below meth c H locs cells slots Q (F0 m pc ls (.int x :: .ref (ad r) :: rest)) := by
  obtain ⟨hex, hbc, hml, hown, hts, hK, hA⟩ := hy
  obtain ⟨hP, hD, hS, hL⟩ := h
  rw [mnx_eq] at hr
  exact va_lald hex hbc hK hP r 1 (mwd_at hr) rfl hx hd kk
theorem mW_last {r N : Nat} {x : Int32} {v : Int64} (hy : mHy p s m args c own cc nL D cy A) (h : mRl s D cy A nL ad L sh σ H locs ls) (hd : decode cc pc = .ok (.lastore, 1)) (hr : mnx sh r = some (.inr (.inr (.inl N)))) (hx : vp_in x N) (hv : v.toInt32.toInt64 = v)
    (kk : ∀ (H1 : Heap) (locs1 : List Loc), mRl s D cy A nL ad L sh (mput σ r x.toNatClampNeg v.toInt32) H1 locs1 ls → W p l e R s m args below meth c H1 locs1 cells slots Q (F0 m (pc + 1) ls rest)) : W p l e R s m args below meth c H locs cells slots Q (F0 m pc ls (.long v :: .int x :: .ref (ad r) :: rest)) := by
  obtain ⟨hex, hbc, hml, hown, hts, hK, hA⟩ := hy
  obtain ⟨hP, hD, hS, hL⟩ := h
  rw [mnx_eq] at hr
  have ef : vp_updL (fun i => (σ r i).toInt64) x.toNatClampNeg v = fun i => (upd (σ r) x.toNatClampNeg v.toInt32 i).toInt64 := by
    funext i
    unfold vp_updL upd
    by_cases q : i = x.toNatClampNeg
    · rw [if_pos q, if_pos q, hv]
    · rw [if_neg q, if_neg q]
  have hset : (mwd cy ad σ 0 sh).set r (ad r, .inl (cy.2.1, N, .inr (.inl (vp_updL (fun i => (σ r i).toInt64) x.toNatClampNeg v)))) = mwd cy ad (mput σ r x.toNatClampNeg v.toInt32) 0 sh := mwd_set0 hr (by simp only [mce]; rw [mput_eq, ef]) (fun q hq => mput_ne hq)
  refine va_last hex hbc hK hP hD hS r 1 (mwd_at hr) rfl hx hd (fun H1 locs1 hP1 hD1 hS1 => ?_)
  rw [hset] at hP1 hD1
  exact kk H1 locs1 ⟨hP1, hD1, hS1, hL⟩
theorem mW_aald {r q : Nat} {rs : List (Option Nat)} {x : Int32} (hy : mHy p s m args c own cc nL D cy A) (h : mRl s D cy A nL ad L sh σ H locs ls) (hd : decode cc pc = .ok (.aaload, 1)) (hr : mnx sh r = some (.inr (.inr (.inr rs)))) (hx : vp_in x rs.length) (hq : mnx rs x.toNatClampNeg = some (some q))
    (kk : W p l e R s m args below meth c H locs cells slots Q (F0 m (pc + 1) ls (.ref (ad q) :: rest))) : W p l e R s m args below meth c H locs cells slots Q (F0 m pc ls (.int x :: .ref (ad r) :: rest)) := by
  obtain ⟨hex, hbc, hml, hown, hts, hK, hA⟩ := hy
  obtain ⟨hP, hD, hS, hL⟩ := h
  rw [mnx_eq] at hr hq
  refine va_aldq hex hbc hK hP r 2 (mwd_at hr) (C := "DustYard$State") rfl hx hd ?_
  rw [hq]
  exact kk
theorem mW_aast {r q : Nat} {rs : List (Option Nat)} {fs : List mFs} {x : Int32} (hy : mHy p s m args c own cc nL D cy A) (h : mRl s D cy A nL ad L sh σ H locs ls) (hd : decode cc pc = .ok (.aastore, 1)) (hr : mnx sh r = some (.inr (.inr (.inr rs)))) (hq : mnx sh q = some (.inl (7, fs))) (hx : vp_in x rs.length)
    (kk : ∀ (H1 : Heap) (locs1 : List Loc), mRl s D cy A nL ad L (mse sh r (.inr (.inr (.inr (mse rs x.toNatClampNeg (some q)))))) σ H1 locs1 ls → W p l e R s m args below meth c H1 locs1 cells slots Q (F0 m (pc + 1) ls rest)) : W p l e R s m args below meth c H locs cells slots Q (F0 m pc ls (.ref (ad q) :: .int x :: .ref (ad r) :: rest)) := by
  obtain ⟨hex, hbc, hml, hown, hts, hK, hA⟩ := hy
  obtain ⟨hP, hD, hS, hL⟩ := h
  rw [mnx_eq] at hr hq
  rw [mse_eq, mse_eq] at kk
  have hxl : x.toNatClampNeg < rs.length := Nat.not_le.mp fun z => hx (Or.inr z)
  have ef : va_up (fun i : Nat => ((rs[i]?).getD none).map ad) x.toNatClampNeg (some (ad q)) = fun i : Nat => (((rs.set x.toNatClampNeg (some q))[i]?).getD none).map ad := by
    funext i
    unfold va_up
    by_cases z : i = x.toNatClampNeg
    · subst z; rw [if_pos rfl, List.getElem?_set_self hxl]; rfl
    · rw [if_neg z, List.getElem?_set_ne (Ne.symm z)]
  have hset : (mwd cy ad σ 0 sh).set r (ad r, .inl (cy.2.2, rs.length, .inr (.inr (.inr (.inr (va_up (fun i : Nat => ((rs[i]?).getD none).map ad) x.toNatClampNeg (some (ad q)))))))) = mwd cy ad σ 0 (sh.set r (.inr (.inr (.inr (rs.set x.toNatClampNeg (some q)))))) := mwd_set (List.getElem?_eq_some_iff.mp hr).1 rfl (by simp only [mce]; rw [ef, List.length_set]) (fun _ _ => rfl)
  refine va_astq hex hbc hK hP hD hS r 2 q 7 (r := (RX8, TX8, 18)) (mwd_at hr) rfl (mwd_at hq) rfl hx hd (fun H1 locs1 hP1 hD1 hS1 => ?_)
  rw [hset] at hP1 hD1
  exact kk H1 locs1 ⟨hP1, hD1, hS1, hL⟩
theorem mW_alenI {r N : Nat} (hy : mHy p s m args c own cc nL D cy A) (h : mRl s D cy A nL ad L sh σ H locs ls) (hd : decode cc pc = .ok (.arraylength, 1)) (hr : mnx sh r = some (.inr (.inl N)))
    (kk : W p l e R s m args below meth c H locs cells slots Q (F0 m (pc + 1) ls (.int (nI N) :: rest))) : W p l e R s m args below meth c H locs cells slots Q (F0 m pc ls (.ref (ad r) :: rest)) := by
  obtain ⟨hex, hbc, hml, hown, hts, hK, hA⟩ := hy
  obtain ⟨hP, hD, hS, hL⟩ := h
  rw [mnx_eq] at hr
  exact va_alen hex hbc hK hP r 0 (mwd_at hr) (ty := .int) rfl (v := nI N) rfl hd kk
theorem mW_alenR {r : Nat} {rs : List (Option Nat)} (hy : mHy p s m args c own cc nL D cy A) (h : mRl s D cy A nL ad L sh σ H locs ls) (hd : decode cc pc = .ok (.arraylength, 1)) (hr : mnx sh r = some (.inr (.inr (.inr rs))))
    (kk : W p l e R s m args below meth c H locs cells slots Q (F0 m (pc + 1) ls (.int (nI rs.length) :: rest))) : W p l e R s m args below meth c H locs cells slots Q (F0 m pc ls (.ref (ad r) :: rest)) := by
  obtain ⟨hex, hbc, hml, hown, hts, hK, hA⟩ := hy
  obtain ⟨hP, hD, hS, hL⟩ := h
  rw [mnx_eq] at hr
  exact va_alen hex hbc hK hP r 2 (mwd_at hr) (ty := .object "DustYard$State") rfl (v := nI rs.length) rfl hd kk
theorem mW_copy {idx w k1 k2 k3 r q N M : Nat} {k dp sp : Int32} (hy : mHy p s m args c own cc nL D cy A) (h : mRl s D cy A nL ad L sh σ H locs ls) (hd : decode cc pc = .ok (.invokestatic idx, 3)) (h1 : mwat w (.methodLink own idx arraycopyName) = true) (h2 : mwat k1 (.native arraycopyName) = true) (h3 : mwat k2 (.static arraycopyName) = true) (h4 : mwat k3 (.initialized "java/lang/System") = true)
    (hr : mnx sh r = some (.inr (.inl N))) (hq : mnx sh q = some (.inr (.inl M))) (hb : ¬ sp < 0 ∧ ¬ dp < 0 ∧ ¬ k < 0 ∧ sp.toNatClampNeg + k.toNatClampNeg ≤ N ∧ dp.toNatClampNeg + k.toNatClampNeg ≤ M) (hf : 1 ≤ R.frames) (hl : (rest.map fun v => v.category).sum + (nativeFrameWords "java/lang/System" "arraycopy" 5 + 11) ≤ R.locals)
    (kk : ∀ (H1 : Heap) (locs1 : List Loc), mRl s D cy A nL ad L sh (fun b2 => if b2 = q then va_cpy (σ r) (σ q) sp.toNatClampNeg dp.toNatClampNeg k.toNatClampNeg else σ b2) H1 locs1 ls → W p l e R s m args below meth c H1 locs1 cells slots Q (F0 m (pc + 3) ls rest)) : W p l e R s m args below meth c H locs cells slots Q (F0 m pc ls (.int k :: .int dp :: .ref (ad q) :: .int sp :: .ref (ad r) :: rest)) := by
  obtain ⟨hex, hbc, hml, hown, hts, hK, hA⟩ := hy
  obtain ⟨hP, hD, hS, hL⟩ := h
  rw [mnx_eq] at hr hq
  have hset : (mwd cy ad σ 0 sh).set q (ad q, .inl (cy.1, M, .inl (va_cpy (σ r) (σ q) sp.toNatClampNeg dp.toNatClampNeg k.toNatClampNeg))) = mwd cy ad (fun b2 => if b2 = q then va_cpy (σ r) (σ q) sp.toNatClampNeg dp.toNatClampNeg k.toNatClampNeg else σ b2) 0 sh := mwd_set0 hq (by simp only [mce, if_true]) (fun b hb2 => by simp only [if_neg hb2])
  refine va_copyi hex hbc (hml.trans hL.1.symm) hown (mword hts h1) (mword hts h2) (mword hts h3) (mword hts h4) hK hP hD hS r q 0 0 (mwd_at hr) (mwd_at hq) (ty := .int) rfl rfl rfl hb.1 hb.2.1 hb.2.2.1 hb.2.2.2.1 hb.2.2.2.2 (fun _ _ => rfl) hf hl hd (fun H1 locs1 hP1 hD1 hS1 => ?_)
  rw [hset] at hP1 hD1
  exact kk H1 locs1 ⟨hP1, hD1, hS1, hL⟩
end MHP
