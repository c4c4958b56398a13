/-! THE WORLD of the mini machine in the heap -/
def mvm (ad : Nat → Nat) : Value → Value
  | .ref r => .ref (ad r)
  | v => v
def mfe (ad : Nat → Nat) (f : Nat → Int32) (k : Nat) : mFs → Value
  | none => .int (f k)
  | some none => .null
  | some (some r) => .ref (ad r)
def mfv (ad : Nat → Nat) (f : Nat → Int32) : Nat → List mFs → List Value
  | _, [] => []
  | i, x :: l => mfe ad f i x :: mfv ad f (i + 1) l
abbrev mCy : Type := ClassId × ClassId × ClassId
def mce (cy : mCy) (ad : Nat → Nat) (s : mSh) (f : Nat → Int32) : va_E := match s with
  | .inl (c, fs) => .inr (c, mfv ad f 0 fs)
  | .inr (.inl n) => .inl (cy.1, n, .inl f)
  | .inr (.inr (.inl n)) => .inl (cy.2.1, n, .inr (.inl (fun i => (f i).toInt64)))
  | .inr (.inr (.inr rs)) => .inl (cy.2.2, rs.length, .inr (.inr (.inr (.inr (fun i => ((rs[i]?).getD none).map ad)))))
def mwd (cy : mCy) (ad : Nat → Nat) (σ : mSg) : Nat → List mSh → va_W
  | _, [] => []
  | i, s :: l => (ad i, mce cy ad s (σ i)) :: mwd cy ad σ (i + 1) l
theorem mnx_eq {α : Type} : ∀ (l : List α) (k : Nat), mnx l k = l[k]?
  | [], _ => rfl
  | _ :: _, 0 => rfl
  | _ :: l, k + 1 => by rw [mnx, mnx_eq l k]; rfl
theorem mse_eq {α : Type} : ∀ (l : List α) (k : Nat) (v : α), mse l k v = l.set k v
  | [], _, _ => rfl
  | _ :: _, 0, _ => rfl
  | _ :: l, k + 1, v => by rw [mse, mse_eq l k v]; rfl
theorem mfv_get (ad : Nat → Nat) (f : Nat → Int32) : ∀ (l : List mFs) (i k : Nat), (mfv ad f i l)[k]? = (l[k]?).map (mfe ad f (i + k))
  | [], _, _ => rfl
  | _ :: _, _, 0 => rfl
  | _ :: l, i, k + 1 => by
    rw [mfv, List.getElem?_cons_succ, List.getElem?_cons_succ, mfv_get ad f l (i + 1) k, Nat.add_right_comm]; rfl
theorem mfv_len (ad : Nat → Nat) (f : Nat → Int32) : ∀ (l : List mFs) (i : Nat), (mfv ad f i l).length = l.length
  | [], _ => rfl
  | _ :: l, i => by rw [mfv, List.length_cons, List.length_cons, mfv_len ad f l (i + 1)]
theorem mwd_get (cy : mCy) (ad : Nat → Nat) (σ : mSg) : ∀ (l : List mSh) (i k : Nat), (mwd cy ad σ i l)[k]? = (l[k]?).map (fun s => (ad (i + k), mce cy ad s (σ (i + k))))
  | [], _, _ => rfl
  | _ :: _, _, 0 => rfl
  | _ :: l, i, k + 1 => by
    rw [mwd, List.getElem?_cons_succ, List.getElem?_cons_succ, mwd_get cy ad σ l (i + 1) k, Nat.add_right_comm]; rfl
theorem mwd_len (cy : mCy) (ad : Nat → Nat) (σ : mSg) : ∀ (l : List mSh) (i : Nat), (mwd cy ad σ i l).length = l.length
  | [], _ => rfl
  | _ :: l, i => by rw [mwd, List.length_cons, List.length_cons, mwd_len cy ad σ l (i + 1)]
theorem mwd_at {cy : mCy} {ad : Nat → Nat} {σ : mSg} {sh : List mSh} {k : Nat} {s : mSh} (h : sh[k]? = some s) : (mwd cy ad σ 0 sh)[k]? = some (ad k, mce cy ad s (σ k)) := by
  rw [mwd_get, h, Nat.zero_add]; rfl
theorem mwd_of {cy : mCy} {ad : Nat → Nat} {σ : mSg} {sh : List mSh} {k : Nat} {q : Nat × va_E} (h : (mwd cy ad σ 0 sh)[k]? = some q) : ∃ s, sh[k]? = some s ∧ q = (ad k, mce cy ad s (σ k)) := by
  rw [mwd_get, Nat.zero_add] at h
  cases hs : sh[k]? with
  | none => rw [hs] at h; cases h
  | some s => rw [hs] at h; exact ⟨s, rfl, (Option.some.inj h).symm⟩
/-- ints of a field or a row are told -/
theorem mwd_set {cy : mCy} {ad : Nat → Nat} {σ σ2 : mSg} {sh sh2 : List mSh} {k : Nat} {s2 : mSh} {e : va_E} (hk : k < sh.length) (h2 : sh2 = sh.set k s2) (he : e = mce cy ad s2 (σ2 k)) (ho : ∀ b, b ≠ k → σ2 b = σ b) : (mwd cy ad σ 0 sh).set k (ad k, e) = mwd cy ad σ2 0 sh2 := by
  subst h2
  refine List.ext_getElem? fun j => ?_
  by_cases hj : k = j
  · subst hj
    rw [List.getElem?_set_self (by rw [mwd_len]; exact hk), mwd_get, List.getElem?_set_self hk, he, Nat.zero_add]; rfl
  · rw [List.getElem?_set_ne hj, mwd_get, mwd_get, List.getElem?_set_ne hj, Nat.zero_add, ho j (Ne.symm hj)]
theorem mwd_set0 {cy : mCy} {ad : Nat → Nat} {σ σ2 : mSg} {sh : List mSh} {k : Nat} {s : mSh} {e : va_E} (hs : sh[k]? = some s) (he : e = mce cy ad s (σ2 k)) (ho : ∀ b, b ≠ k → σ2 b = σ b) : (mwd cy ad σ 0 sh).set k (ad k, e) = mwd cy ad σ2 0 sh := by
  have hk := (List.getElem?_eq_some_iff.mp hs).1
  refine mwd_set hk ?_ he ho
  refine List.ext_getElem? fun j => ?_
  by_cases hj : k = j
  · subst hj; rw [List.getElem?_set_self hk, hs]
  · rw [List.getElem?_set_ne hj]
theorem mput_ne {σ : mSg} {a i : Nat} {v : Int32} {b : Nat} (h : b ≠ a) : mput σ a i v b = σ b := by unfold mput; rw [if_neg h]
theorem mput_eq {σ : mSg} {a i : Nat} {v : Int32} : mput σ a i v a = upd (σ a) i v := by unfold mput; rw [if_pos rfl]
theorem mfv_put {ad : Nat → Nat} {f : Nat → Int32} {fs : List mFs} {b : Nat} {x : Int32} (h : fs[b]? = some none) : (mfv ad f 0 fs).set b (.int x) = mfv ad (upd f b x) 0 fs := by
  have hb := (List.getElem?_eq_some_iff.mp h).1
  refine List.ext_getElem? fun j => ?_
  by_cases hj : b = j
  · subst hj
    rw [List.getElem?_set_self (by rw [mfv_len]; exact hb), mfv_get, h, Nat.zero_add]
    simp [mfe, upd]
  · rw [List.getElem?_set_ne hj, mfv_get, mfv_get, Nat.zero_add]
    cases fs[j]? with
    | none => rfl
    | some y => cases y with
      | none => simp [mfe, upd, Ne.symm hj]
      | some z => cases z <;> rfl
theorem mfv_putR {ad : Nat → Nat} {f : Nat → Int32} {fs : List mFs} {b q : Nat} (hb : b < fs.length) : (mfv ad f 0 fs).set b (.ref (ad q)) = mfv ad f 0 (fs.set b (some (some q))) := by
  refine List.ext_getElem? fun j => ?_
  by_cases hj : b = j
  · subst hj
    rw [List.getElem?_set_self (by rw [mfv_len]; exact hb), mfv_get, List.getElem?_set_self hb]; rfl
  · rw [List.getElem?_set_ne hj, mfv_get, mfv_get, List.getElem?_set_ne hj]
/-- only the addresses matter for being apart -/
theorem mD_eq {cy : mCy} {ad : Nat → Nat} {σ σ2 : mSg} {sh sh2 : List mSh} {A : Nat → Prop} (h : va_D A (mwd cy ad σ 0 sh)) (hl : sh2.length = sh.length) : va_D A (mwd cy ad σ2 0 sh2) := by
  have key : ∀ (k : Nat) (q : Nat × va_E), (mwd cy ad σ2 0 sh2)[k]? = some q → ∃ q2 : Nat × va_E, (mwd cy ad σ 0 sh)[k]? = some q2 ∧ q2.1 = q.1 := by
    intro k q hq
    obtain ⟨s, hs, rfl⟩ := mwd_of hq
    have hk := (List.getElem?_eq_some_iff.mp hs).1
    rw [hl] at hk
    exact ⟨_, mwd_at (List.getElem?_eq_getElem hk), rfl⟩
  refine ⟨fun i j p q hp hq e => ?_, fun k q hq => ?_⟩
  · obtain ⟨p2, h1, e1⟩ := key i p hp
    obtain ⟨q2, h2, e2⟩ := key j q hq
    exact h.1 i j p2 q2 h1 h2 (by rw [e1, e2, e])
  · obtain ⟨q2, h2, e2⟩ := key k q hq
    rw [← e2]; exact h.2 k q2 h2
theorem mD_inj {cy : mCy} {ad : Nat → Nat} {σ : mSg} {sh : List mSh} {A : Nat → Prop} (h : va_D A (mwd cy ad σ 0 sh)) {i j : Nat} (hi : i < sh.length) (hj : j < sh.length) (e : ad i = ad j) : i = j :=
  h.1 i j _ _ (mwd_at (List.getElem?_eq_getElem hi)) (mwd_at (List.getElem?_eq_getElem hj)) e
/-- a new cell -/
theorem mokF_lt {n : Nat} : ∀ {fs : List mFs}, mokF n fs = true → ∀ (k r : Nat), fs[k]? = some (some (some r)) → r < n
  | [], _, k, r, h => by simp at h
  | x :: l, ho, 0, r, h => by
    rw [List.getElem?_cons_zero] at h
    cases h
    simp only [mokF, Bool.and_eq_true] at ho
    exact Nat.le_of_ble_eq_true ho.1
  | x :: l, ho, k + 1, r, h => by
    rw [List.getElem?_cons_succ] at h
    refine mokF_lt (fs := l) ?_ k r h
    cases x with
    | none => exact ho
    | some y => cases y with
      | none => exact ho
      | some z => simp only [mokF, Bool.and_eq_true] at ho; exact ho.2
theorem mokR_lt {n : Nat} : ∀ {rs : List (Option Nat)}, mokR n rs = true → ∀ (k r : Nat), rs[k]? = some (some r) → r < n
  | [], _, k, r, h => by simp at h
  | x :: l, ho, 0, r, h => by
    rw [List.getElem?_cons_zero] at h
    cases h
    simp only [mokR, Bool.and_eq_true] at ho
    exact Nat.le_of_ble_eq_true ho.1
  | x :: l, ho, k + 1, r, h => by
    rw [List.getElem?_cons_succ] at h
    refine mokR_lt (rs := l) ?_ k r h
    cases x with
    | none => exact ho
    | some y => simp only [mokR, Bool.and_eq_true] at ho; exact ho.2
theorem mokS_at {n : Nat} : ∀ {sh : List mSh}, mokS n sh = true → ∀ (k : Nat) (s : mSh), sh[k]? = some s → mokS n [s] = true
  | [], _, k, s, h => by simp at h
  | x :: l, ho, 0, s, h => by
    rw [List.getElem?_cons_zero] at h
    cases h
    rcases x with ⟨c, fs⟩ | n1 | n2 | rs <;> simp_all [mokS]
  | x :: l, ho, k + 1, s, h => by
    rw [List.getElem?_cons_succ] at h
    refine mokS_at (sh := l) ?_ k s h
    rcases x with ⟨c, fs⟩ | n1 | n2 | rs <;> simp_all [mokS]
theorem mce_ad {cy : mCy} {ad ad2 : Nat → Nat} {n : Nat} {s : mSh} {f : Nat → Int32} (ho : mokS n [s] = true) (h : ∀ r, r < n → ad2 r = ad r) : mce cy ad2 s f = mce cy ad s f := by
  rcases s with ⟨c, fs⟩ | n1 | n2 | rs
  · have ho : mokF n fs = true := by simpa [mokS] using ho
    have e : mfv ad2 f 0 fs = mfv ad f 0 fs := by
      refine List.ext_getElem? fun j => ?_
      rw [mfv_get, mfv_get]
      cases hj : fs[j]? with
      | none => rfl
      | some y => cases y with
        | none => rfl
        | some z => cases z with
          | none => rfl
          | some r => simp [mfe, h r (mokF_lt ho j r hj)]
    simp only [mce, e]
  · rfl
  · rfl
  · have ho : mokR n rs = true := by simpa [mokS] using ho
    have e : (fun i : Nat => ((rs[i]?).getD none).map ad2) = fun i : Nat => ((rs[i]?).getD none).map ad := by
      funext i
      cases hj : rs[i]? with
      | none => rfl
      | some y => cases y with
        | none => rfl
        | some r => simp [h r (mokR_lt ho i r hj)]
    simp only [mce, e]
theorem mwd_push {cy : mCy} {ad : Nat → Nat} {σ : mSg} {sh : List mSh} {q : Nat} {s : mSh} {e : va_E} (ho : mokS sh.length sh = true) (hs : mokS sh.length [s] = true) (he : e = mce cy ad s (fun _ => 0)) : mwd cy ad σ 0 sh ++ [(q, e)] = mwd cy (va_up ad sh.length q) (mnew σ sh.length) 0 (sh ++ [s]) := by
  have hup : ∀ r, r < sh.length → va_up ad sh.length q r = ad r := fun r hr => by unfold va_up; rw [if_neg (by omega)]
  refine List.ext_getElem? fun j => ?_
  rcases Nat.lt_trichotomy j sh.length with h | h | h
  · rw [List.getElem?_append_left (by rw [mwd_len]; exact h), mwd_get, mwd_get, List.getElem?_append_left h, List.getElem?_eq_getElem h]
    have hn : mnew σ sh.length j = σ j := by unfold mnew; rw [if_neg (by omega)]
    simp only [Option.map_some, Nat.zero_add]
    rw [hup j h, hn, mce_ad (mokS_at ho j _ (List.getElem?_eq_getElem h)) hup]
  · subst h
    rw [List.getElem?_append_right (by rw [mwd_len]; exact Nat.le_refl _), mwd_get, List.getElem?_append_right (Nat.le_refl _), mwd_len, Nat.sub_self]
    have hn : mnew σ sh.length sh.length = fun _ => 0 := by unfold mnew; rw [if_pos rfl]
    have hq : va_up ad sh.length q sh.length = q := by unfold va_up; rw [if_pos rfl]
    simp only [List.getElem?_cons_zero, Option.map_some, Nat.zero_add]
    rw [hq, hn, mce_ad hs hup, he]
  · rw [List.getElem?_eq_none (by rw [List.length_append, mwd_len]; simp; omega), List.getElem?_eq_none (by rw [mwd_len, List.length_append]; simp; omega)]
theorem mvm_ok {n : Nat} {ad ad2 : Nat → Nat} (h : ∀ r, (r < n ∨ 1000 ≤ r) → ad2 r = ad r) : ∀ {st : List Value}, mokV n st = true → st.map (mvm ad2) = st.map (mvm ad)
  | [], _ => rfl
  | v :: l, ho => by
    cases v with
    | ref r =>
      simp only [mokV, Bool.and_eq_true, Bool.or_eq_true] at ho
      have h1 : ad2 r = ad r := h r (ho.1.imp Nat.le_of_ble_eq_true Nat.le_of_ble_eq_true)
      rw [List.map_cons, List.map_cons, mvm_ok h ho.2]; simp only [mvm, h1]
    | _ =>
      have e := mvm_ok h (st := l) ho
      rw [List.map_cons, List.map_cons, e]; rfl
/-- the locals -/
def mLR (ad : Nat → Nat) (ls : Array Slot) (nL : Nat) (L : mLc) : Prop := ls.size = nL ∧ lv_wf ls ∧ ∀ (i : Nat) (v : Value), L[i]? = some (some v) → ls[i]? = some (.val (mvm ad v))
theorem mLR_ok {n nL : Nat} {ad ad2 : Nat → Nat} {ls : Array Slot} (h : ∀ r, (r < n ∨ 1000 ≤ r) → ad2 r = ad r) {L : mLc} (ho : mokL n L = true) (hL : mLR ad ls nL L) : mLR ad2 ls nL L := by
  refine ⟨hL.1, hL.2.1, fun i v hv => ?_⟩
  have key : ∀ (L : mLc), mokL n L = true → ∀ (i r : Nat), L[i]? = some (some (.ref r)) → ad2 r = ad r := by
    intro L
    induction L with
    | nil => intro _ i r h; simp at h
    | cons x l ih =>
      intro ho i r hr
      cases i with
      | zero =>
        rw [List.getElem?_cons_zero] at hr
        cases hr
        simp only [mokL, Bool.and_eq_true, Bool.or_eq_true] at ho
        exact h r (ho.1.imp Nat.le_of_ble_eq_true Nat.le_of_ble_eq_true)
      | succ i =>
        rw [List.getElem?_cons_succ] at hr
        refine ih ?_ i r hr
        cases x with
        | none => exact ho
        | some y => cases y with
          | ref q => simp only [mokL, Bool.and_eq_true] at ho; exact ho.2
          | _ => exact ho
  rw [hL.2.2 i v hv]
  cases v with
  | ref r => simp only [mvm, key L ho i r hv]
  | _ => rfl
theorem mkl_at : ∀ (L : mLc) (m i : Nat) (v : Value), (mkl m L)[i]? = some (some v) → L[i]? = some (some v)
  | [], _, i, v, h => by simp [mkl] at h
  | x :: L, m, 0, v, h => by
    simp only [mkl, List.getElem?_cons_zero] at h ⊢
    split at h
    · cases h
    · exact h
  | x :: L, m, i + 1, v, h => by
    simp only [mkl, List.getElem?_cons_succ] at h ⊢
    exact mkl_at L _ i v h
theorem mLR_kl {ad : Nat → Nat} {ls : Array Slot} {nL : Nat} {L : mLc} (m : Nat) (h : mLR ad ls nL L) : mLR ad ls nL (mkl m L) := ⟨h.1, h.2.1, fun i v hv => h.2.2 i v (mkl_at L m i v hv)⟩
def mas (ad : Nat → Nat) (L : mLc) : List (Nat × Value) := (List.range L.length).filterMap fun i => match L[i]? with | some (some v) => some (i, mvm ad v) | _ => none
theorem mas_mem {ad : Nat → Nat} {L : mLc} {i : Nat} {w : Value} : (i, w) ∈ mas ad L ↔ ∃ v, L[i]? = some (some v) ∧ w = mvm ad v := by
  unfold mas
  rw [List.mem_filterMap]
  constructor
  · rintro ⟨j, -, h⟩
    cases hj : L[j]? with
    | none => rw [hj] at h; cases h
    | some y => cases y with
      | none => rw [hj] at h; cases h
      | some v => rw [hj] at h; cases h; exact ⟨v, hj, rfl⟩
  · rintro ⟨v, hv, rfl⟩
    exact ⟨i, List.mem_range.mpr (List.getElem?_eq_some_iff.mp hv).1, by rw [hv]⟩
theorem mLR_has {ad : Nat → Nat} {ls : Array Slot} {nL : Nat} {L : mLc} (h : mLR ad ls nL L) : lv_has ls nL (mas ad L) := ⟨h.1, h.2.1, fun q hq => by
  obtain ⟨v, hv, e⟩ := mas_mem.mp (show (q.1, q.2) ∈ mas ad L from hq)
  rw [e]; exact h.2.2 q.1 v hv⟩
theorem mvm_cat (ad : Nat → Nat) (v : Value) : (mvm ad v).category = v.category := by cases v <;> rfl
theorem mclr_at : ∀ (L : mLc) (n i : Nat) (v : Value), (mclr L n)[i]? = some (some v) → L[i]? = some (some v) ∧ (i + 1 = n → ¬ v.category = 2)
  | [], n, i, v, h => by simp [mclr] at h
  | a :: L, 0, i, v, h => ⟨h, fun e => by omega⟩
  | a :: L, 1, 0, v, h => by
    simp only [mclr, List.getElem?_cons_zero] at h ⊢
    split at h
    · cases h
    · cases h
    · rename_i h1 h2
      refine ⟨h, fun _ => ?_⟩
      cases h
      cases v with
      | long z => exact absurd rfl (h1 z)
      | double z => exact absurd rfl (h2 z)
      | _ => simp [Value.category]
  | a :: L, 1, i + 1, v, h => by
    simp only [mclr, List.getElem?_cons_succ] at h ⊢
    exact ⟨h, fun e => by omega⟩
  | a :: L, n + 2, 0, v, h => by
    simp only [mclr, List.getElem?_cons_zero] at h ⊢
    exact ⟨h, fun e => by omega⟩
  | a :: L, n + 2, i + 1, v, h => by
    simp only [mclr, List.getElem?_cons_succ] at h ⊢
    obtain ⟨h1, h2⟩ := mclr_at L (n + 1) i v h
    exact ⟨h1, fun e => h2 (by omega)⟩
theorem mst1_at {L : mLc} {n i : Nat} {w v : Value} (h : (mst1 L n w)[i]? = some (some v)) : (i = n ∧ v = w) ∨ (i ≠ n ∧ L[i]? = some (some v) ∧ (i + 1 = n → ¬ v.category = 2)) := by
  unfold mst1 at h
  rw [mse_eq] at h
  by_cases e : n = i
  · subst e
    have hl : n < ((mclr L n).set n (some w)).length := (List.getElem?_eq_some_iff.mp h).1
    rw [List.length_set] at hl
    rw [List.getElem?_set_self hl] at h
    cases h
    exact Or.inl ⟨rfl, rfl⟩
  · rw [List.getElem?_set_ne e] at h
    obtain ⟨h1, h2⟩ := mclr_at L n i v h
    exact Or.inr ⟨Ne.symm e, h1, h2⟩
theorem mst2_at {L : mLc} {n i : Nat} {w v : Value} (h : (mst2 L n w)[i]? = some (some v)) : (i = n ∧ v = w) ∨ (i ≠ n ∧ i ≠ n + 1 ∧ L[i]? = some (some v) ∧ (i + 1 = n → ¬ v.category = 2)) := by
  unfold mst2 at h
  rw [mse_eq, mse_eq] at h
  by_cases e : n + 1 = i
  · subst e
    have hl := (List.getElem?_eq_some_iff.mp h).1
    rw [List.length_set] at hl
    rw [List.getElem?_set_self hl] at h
    cases h
  · rw [List.getElem?_set_ne e] at h
    by_cases e2 : n = i
    · subst e2
      have hl := (List.getElem?_eq_some_iff.mp h).1
      rw [List.length_set] at hl
      rw [List.getElem?_set_self hl] at h
      cases h
      exact Or.inl ⟨rfl, rfl⟩
    · rw [List.getElem?_set_ne e2] at h
      obtain ⟨h1, h2⟩ := mclr_at L n i v h
      exact Or.inr ⟨Ne.symm e2, Ne.symm e, h1, h2⟩
theorem mLR_st1 {ad : Nat → Nat} {ls' : Array Slot} {nL i : Nat} {L : mLc} {v : Value} (h : lv_has ls' nL ((i, mvm ad v) :: (mas ad L).filter (fun q => !(q.1 == i) && !(q.1 + 1 == i && q.2.category == 2)))) : mLR ad ls' nL (mst1 L i v) := by
  refine ⟨h.1, h.2.1, fun j w hw => ?_⟩
  rcases mst1_at hw with ⟨rfl, rfl⟩ | ⟨h1, h2, h3⟩
  · exact h.2.2 (j, _) List.mem_cons_self
  · refine h.2.2 (j, mvm ad w) (List.mem_cons_of_mem _ (List.mem_filter.mpr ⟨mas_mem.mpr ⟨w, h2, rfl⟩, ?_⟩))
    by_cases e : j + 1 = i
    · simp [h1, mvm_cat, h3 e]
    · simp [h1, e]
theorem mLR_st2 {ad : Nat → Nat} {ls' : Array Slot} {nL i : Nat} {L : mLc} {v : Value} (h : lv_has ls' nL ((i, mvm ad v) :: (mas ad L).filter (fun q => !(q.1 == i) && (!(q.1 == i + 1) && !(q.1 + 1 == i && q.2.category == 2))))) : mLR ad ls' nL (mst2 L i v) := by
  refine ⟨h.1, h.2.1, fun j w hw => ?_⟩
  rcases mst2_at hw with ⟨rfl, rfl⟩ | ⟨h1, h4, h2, h3⟩
  · exact h.2.2 (j, _) List.mem_cons_self
  · refine h.2.2 (j, mvm ad w) (List.mem_cons_of_mem _ (List.mem_filter.mpr ⟨mas_mem.mpr ⟨w, h2, rfl⟩, ?_⟩))
    by_cases e : j + 1 = i
    · simp [h1, h4, mvm_cat, h3 e]
    · simp [h1, h4, e]
