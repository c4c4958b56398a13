/-! METHODS: what mCT says of a method holds of it -/
/-- the locals at a method's entry -/
def ment : List Value → mLc
  | [] => []
  | .long x :: l => some (.long x) :: none :: ment l
  | .double x :: l => some (.double x) :: none :: ment l
  | v :: l => some v :: ment l
def mpad (n : Nat) (L : mLc) : mLc := L ++ List.replicate (n - L.length) none
def mlk : List (Nat × List mIt) → Nat → List mIt
  | [], _ => []
  | (k, is) :: l, n => match Nat.beq k n with | true => is | false => mlk l n
/-- whether an answer is of the method's kind -/
def mtyQ (ret : Option FieldType) (Q : mPst) : mPst := fun o sh σ => match o with
  | .inr _ => Q o sh σ
  | .inl none => (match ret with | none => Q o sh σ | _ => False)
  | .inl (some (.int _)) => (match ret with | some .int => Q o sh σ | some .boolean => Q o sh σ | _ => False)
  | .inl (some (.long _)) => (match ret with | some .long => Q o sh σ | _ => False)
  | _ => False
def mrbk : Option FieldType → Bool
  | some .boolean => true
  | _ => false
section MCTd
variable (tb : Nat → mTe) (cd : Nat → List (Nat × List mIt)) (mi : Nat → Nat × Nat × Nat) (msp : Nat → List mSh)
def mCT : Nat → mCt
  | 0, _, _, _, _, _ => False
  | d + 1, j, as, sh, σ, Q => Nat.ble (mcat as) (tb j).1.2.2.1 = true ∧ ∀ X : mJt, (∀ (l : Nat) (L : mLc) (st : List Value) (sh2 : List mSh) (σ2 : mSg) (c n : Nat), bx (mCT d) mi msp none (mi j).1 (mi j).2.1 (mrbk (tb j).1.2.2.2.1) X (mtyQ (tb j).1.2.2.2.1 Q) (mlk (cd j) l) L st sh2 σ2 c n → X l L st sh2 σ2 c n) → X 0 (mpad (tb j).1.2.2.1 (ment as)) [] sh σ 0 0
end MCTd
/-- what is checked of a method: its entry, its blocks -/
def mjb (tb : Nat → mTe) (NM : Nat) (q : mTe) (bs : List (Nat × List mIt)) : Bool := mteb q && (plainName q.1.1.cls && ((decide (q.1.1.cls ≠ "DustYard") || decide (q.1.2.2.2.2 = [])) && bs.all (fun b => mchk tb NM q.1.1.cls q.1.2.1 q.1.2.2.1 q.1.2.2.2.2 (decide (q.1.1.name = "<init>")) b.2 b.1)))
theorem mlk_mem : ∀ (bs : List (Nat × List mIt)) (l : Nat), mlk bs l = [] ∨ (l, mlk bs l) ∈ bs
  | [], l => Or.inl rfl
  | (k, is) :: bs, l => by
    simp only [mlk]
    cases hk : Nat.beq k l with
    | true =>
      have e := Nat.eq_of_beq_eq_true hk
      subst e
      exact Or.inr (List.mem_cons_self)
    | false =>
      rcases mlk_mem bs l with z | z
      · exact Or.inl z
      · exact Or.inr (List.mem_cons_of_mem _ z)
theorem ment_args (ad : Nat → Nat) : ∀ (as : List Value) (k i : Nat) (v : Value), (ment as)[i]? = some (some v) → (k + i, mvm ad v) ∈ lv_args k (as.map (mvm ad))
  | [], k, i, v, h => by simp [ment] at h
  | a :: as, k, i, v, h => by
    have one : ∀ {a : Value}, (mvm ad a).category = 1 → ment (a :: as) = some a :: ment as → (ment (a :: as))[i]? = some (some v) → (k + i, mvm ad v) ∈ lv_args k ((a :: as).map (mvm ad)) := by
      intro a hc he h
      rw [he] at h
      rw [List.map_cons, lv_args, if_neg (by rw [hc]; decide)]
      cases i with
      | zero => rw [List.getElem?_cons_zero] at h; cases h; exact List.mem_cons_self
      | succ i =>
        rw [List.getElem?_cons_succ] at h
        have := ment_args ad as (k + 1) i v h
        rw [show k + 1 + i = k + (i + 1) by omega] at this
        exact List.mem_cons_of_mem _ this
    have two : ∀ {a : Value}, (mvm ad a).category = 2 → ment (a :: as) = some a :: none :: ment as → (ment (a :: as))[i]? = some (some v) → (k + i, mvm ad v) ∈ lv_args k ((a :: as).map (mvm ad)) := by
      intro a hc he h
      rw [he] at h
      rw [List.map_cons, lv_args, if_pos hc]
      cases i with
      | zero => rw [List.getElem?_cons_zero] at h; cases h; exact List.mem_cons_self
      | succ i =>
        cases i with
        | zero => simp at h
        | succ i =>
          rw [List.getElem?_cons_succ, List.getElem?_cons_succ] at h
          have := ment_args ad as (k + 2) i v h
          rw [show k + 2 + i = k + (i + 1 + 1) by omega] at this
          exact List.mem_cons_of_mem _ this
    cases a with
    | long x => exact two rfl rfl h
    | double x => exact two rfl rfl h
    | _ => exact one rfl rfl h
theorem lg_sl_cat (ad : Nat → Nat) : ∀ as : List Value, (lg_sl (as.map (mvm ad))).length = mcat as
  | [] => rfl
  | v :: l => by
    have ih := lg_sl_cat ad l
    unfold lg_sl at ih ⊢
    rw [List.map_cons, List.flatMap_cons, List.length_append, ih]
    cases v <;> rfl
theorem mpad_at {n i : Nat} {L : mLc} {v : Value} (h : (mpad n L)[i]? = some (some v)) : L[i]? = some (some v) := by
  unfold mpad at h
  rw [List.getElem?_append] at h
  split at h
  · exact h
  · rw [List.getElem?_replicate] at h
    split at h <;> cases h
theorem mLR_entry {ad : Nat → Nat} {as : List Value} {n : Nat} (h : mcat as ≤ n) : mLR ad (lg_sl (as.map (mvm ad)) ++ List.replicate (n - (lg_sl (as.map (mvm ad))).length) Slot.unset).toArray n (mpad n (ment as)) := by
  obtain ⟨h1, h2, h3⟩ := lv_entry (as.map (mvm ad)) (n := n) (by rw [lg_sl_cat]; exact h)
  refine ⟨h1, h2, fun i v hv => ?_⟩
  have := ment_args ad as 0 i v (mpad_at hv)
  rw [Nat.zero_add] at this
  exact h3 _ this
theorem mthb_at {own : String} {cc : ByteArray} {pc ik w a : Nat} {ps : List (Nat × Nat)} (h : mthb own cc pc ik w a ps = true) : ∃ (is wide w2 txt : Nat) (X : String) (ic lw : Nat), own = "DustYard" ∧ mnx mxl a = some X ∧ mnx mxc a = some ic ∧ mwat w (.classLink "DustYard" ik X) = true ∧ mwat w2 (.initialized X) = true ∧ (∃ tx, ("DustYard", is, txt, tx) ∈ mtx) ∧ decode cc (pc + 3) = .ok (.dup, 1) ∧ ((decode cc (pc + 4) = .ok (.ldc is, 2) ∧ lw = 2) ∨ (decode cc (pc + 4) = .ok (.ldc_w is, 3) ∧ lw = 3)) ∧ decode cc (pc + 4 + lw) = .ok (.invokespecial ic, 3) ∧ decode cc (pc + 4 + lw + 3) = .ok (.athrow, 1) := by
  unfold mthb at h
  split at h
  · rename_i is wide w2 txt
    obtain ⟨h1, h⟩ := mit_gen h
    have h1 := of_decide_eq_true h1
    subst h1
    split at h
    · rename_i X ic hX hic
      obtain ⟨h2, h⟩ := mit_gen h
      obtain ⟨h3, h⟩ := mit_gen h
      obtain ⟨h4, h⟩ := mit_gen h
      obtain ⟨h5, h⟩ := mit_gen h
      obtain ⟨h6, h⟩ := mit_gen h
      obtain ⟨h7, h8⟩ := mit_gen h
      cases wide with
      | zero => exact ⟨is, 0, w2, txt, X, ic, 2, rfl, hX, hic, h2, h3, mtxb_at h4, mdec_at h5, Or.inl ⟨mdec_at h6, rfl⟩, mdec_at h7, mdec_at h8⟩
      | succ n => exact ⟨is, n + 1, w2, txt, X, ic, 3, rfl, hX, hic, h2, h3, mtxb_at h4, mdec_at h5, Or.inr ⟨mdec_at h6, rfl⟩, mdec_at h7, mdec_at h8⟩
    · cases h
  · cases h
