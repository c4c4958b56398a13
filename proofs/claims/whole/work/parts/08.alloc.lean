/-! NEW CELLS -/
theorem mup_ok {n q : Nat} {ad : Nat → Nat} (hn : n < 1000) : ∀ r, (r < n ∨ 1000 ≤ r) → va_up ad n q r = ad r := fun r hr => by unfold va_up; rw [if_neg (by omega)]
theorem mcy_eq {D : va_G} {cy : mCy} {s : State} {cA : ClassId} {ty : FieldType} {k : Nat} {cB : ClassId} (h : va_K D vwCl (mtys cy ++ [(cA, ty)]) s) (hk : (mtys cy)[k]? = some (cB, ty)) : cA = cB := by
  have h1 := (h.2 3 (cA, ty) rfl).2
  have h2 := (h.2 k (cB, ty) (by rw [List.getElem?_append_left (List.getElem?_eq_some_iff.mp hk).1]; exact hk)).2
  cases ty with
  | object C =>
    obtain ⟨kA, comp, a1, a2, a3, a4⟩ := h1
    obtain ⟨kB, comp2, b1, b2, b3, b4⟩ := h2
    exact Option.some.inj (a4.symm.trans b4)
  | _ => exact Option.some.inj (h1.symm.trans h2)
def mdf (ty : FieldType) (x : mFs) : Bool := match ty, x with
  | .int, none => true
  | .boolean, none => true
  | .object _, some none => true
  | .array _, some none => true
  | _, _ => false
theorem mdf_ok {ty : FieldType} {x : mFs} (h : mdf ty x = true) (ad : Nat → Nat) (k : Nat) : defaultValue ty = mfe ad (fun _ => 0) k x := by
  unfold mdf at h
  split at h <;> first | rfl | cases h
theorem mbf_key {fs : List mFs} {T : u_T} {ty0 : Nat → FieldType} {N : Nat} (h1 : ∀ k, k < N → parseFieldDescriptor (T k).2.2.1 = some (ty0 k)) (h2 : (List.range N).all (fun k => match fs[k]? with | some x => mdf (ty0 k) x | none => false) = true) : ∀ (ad : Nat → Nat) (j : Nat), j < N → ∀ ty, parseFieldDescriptor (T j).2.2.1 = some ty → defaultValue ty = vp_V (mfv ad (fun _ => 0) 0 fs) j := by
  intro ad j hj ty hty
  cases (h1 j hj).symm.trans hty
  have h3 := List.all_eq_true.mp h2 j (List.mem_range.mpr hj)
  split at h3
  · rename_i x hx
    unfold vp_V
    rw [List.getD_eq_getElem?_getD, mfv_get, hx]
    exact mdf_ok h3 ad (0 + j)
  · cases h3
theorem mbf_ok : ∀ (a : Nat) (q : vw_C), vwCl[a]? = some q → (mbf a).length = q.2.2 ∧ ∀ (ad : Nat → Nat) (j : Nat), j < q.2.2 → ∀ ty, parseFieldDescriptor (q.2.1 j).2.2.1 = some ty → defaultValue ty = vp_V (mfv ad (fun _ => 0) 0 (mbf a)) j
  | 0, q, h => by cases h; exact ⟨rfl, mbf_key tyX1_ok (by decide +kernel)⟩
  | 1, q, h => by cases h; exact ⟨rfl, mbf_key tyX2_ok (by decide +kernel)⟩
  | 2, q, h => by cases h; exact ⟨rfl, mbf_key tyX3_ok (by decide +kernel)⟩
  | 3, q, h => by cases h; exact ⟨rfl, mbf_key tyX4_ok (by decide +kernel)⟩
  | 4, q, h => by cases h; exact ⟨rfl, mbf_key tyX5_ok (by decide +kernel)⟩
  | 5, q, h => by cases h; exact ⟨rfl, mbf_key tyX6_ok (by decide +kernel)⟩
  | 6, q, h => by cases h; exact ⟨rfl, mbf_key tyX7_ok (by decide +kernel)⟩
  | 7, q, h => by cases h; exact ⟨rfl, mbf_key tyX8_ok (by decide +kernel)⟩
  | 8, q, h => by cases h; exact ⟨rfl, mbf_key tyX9_ok (by decide +kernel)⟩
  | 9, q, h => by cases h; exact ⟨rfl, mbf_key tyX10_ok (by decide +kernel)⟩
  | 10, q, h => by cases h; exact ⟨rfl, mbf_key tyX11_ok (by decide +kernel)⟩
  | n + 11, q, h => by simp [vwCl] at h
theorem mbf_S (n a : Nat) : mokS n [.inl (a, mbf a)] = true := by
  have key : ∀ fs : List mFs, (∀ x ∈ fs, x = none ∨ x = some none) → mokF n fs = true := by
    intro fs
    induction fs with
    | nil => intro _; rfl
    | cons x l ih =>
      intro h
      rcases h x List.mem_cons_self with rfl | rfl <;> exact ih fun y hy => h y (List.mem_cons_of_mem _ hy)
  have : mokF n (mbf a) = true := key _ (by
    unfold mbf
    split <;> decide)
  simp [mokS, this]
/-- a class that can be made: its link, what is said of it -/
def mnwb (own : String) (idx w a w1 w2 : Nat) : Bool := match vwCl[a]? with
  | some (C, _, N) => mwat w (.classLink own idx C) && (mwat w1 (.instantiable C N) && mwat w2 (.initialized C))
  | none => false
section MAL
variable {p : Program} {l : Launch} {e : Env} {R : Room} {s : State} {m : MethodId} {args : Array Value} {below : List Frame} {meth : Method} {c : Code} {H : Heap} {locs : List Loc} {cells slots : Nat} {Q : State → Prop}
variable {own : String} {cc : ByteArray} {nL : Nat} {D : va_G} {cy : mCy} {A : Nat → Prop} {pc : Nat} {ad : Nat → Nat} {L : mLc} {sh : List mSh} {σ : mSg} {ls : Array Slot} {rest : List Value}
theorem mW_push {q : Nat} {H1 : Heap} {sx : mSh} {e1 : va_E} (hL : mLR ad ls nL L) (ho : mokL sh.length L = true) (hos : mokS sh.length sh = true) (hsx : mokS sh.length [sx] = true) (hn : sh.length < 1000) (he : e1 = mce cy ad sx (fun _ => 0)) (hP : va_P D vwCl (mwd cy ad σ 0 sh ++ [(q, e1)]) H1) (hD : va_D A (mwd cy ad σ 0 sh ++ [(q, e1)])) (hS : va_S A s.heap H1 locs) : mRl s D cy A nL (va_up ad sh.length q) L (sh ++ [sx]) (mnew σ sh.length) H1 locs ls := by
  rw [mwd_push hos hsx he] at hP hD
  exact ⟨hP, hD, hS, mLR_ok (mup_ok hn) ho hL⟩
theorem mW_newI {a : Nat} (hy : mHy p s m args c own cc nL D cy A) (h : mRl s D cy A nL ad L sh σ H locs ls) (hd : decode cc pc = .ok (.newarray .int, 2)) (hw : (Cond.arrayClass .int).before args s = true) (ho : mokL sh.length L = true) (hos : mokS sh.length sh = true) (hn : sh.length < 1000) (ha : a ≤ 100000) (hc : cells + 1 ≤ R.cells) (hs : slots + a ≤ R.slots)
    (kk : ∀ (q : Nat) (H1 : Heap), mRl s D cy A nL (va_up ad sh.length q) L (sh ++ [.inr (.inl a)]) (mnew σ sh.length) H1 locs ls → W p l e R s m args below meth c H1 locs (cells + 1) (slots + a) Q (F0 m (pc + 2) ls (.ref q :: rest))) : W p l e R s m args below meth c H locs cells slots Q (F0 m pc ls (.int (nI a) :: rest)) := by
  obtain ⟨hex, hbc, hml, hown, hts, hK, hA⟩ := hy
  obtain ⟨hP, hD, hS, hL⟩ := h
  refine va_newa (atype := .int) hex hbc hw rfl hK hP hD hS hA (a0 := (a, .inl (fun _ => 0))) (N' := a) (fun _ => rfl) (nI_pos (by omega)) (nI_clamp (by omega)) (show a * 4 ≤ 536870912 by omega) hc hs hd (fun q cA H1 hK1 hP1 hD1 hS1 => ?_)
  have e1 := mcy_eq (k := 0) hK1 rfl
  subst e1
  exact kk q H1 (mW_push hL ho hos rfl hn rfl hP1 hD1 hS1)
theorem mW_newJ {a : Nat} (hy : mHy p s m args c own cc nL D cy A) (h : mRl s D cy A nL ad L sh σ H locs ls) (hd : decode cc pc = .ok (.newarray .long, 2)) (hw : (Cond.arrayClass .long).before args s = true) (ho : mokL sh.length L = true) (hos : mokS sh.length sh = true) (hn : sh.length < 1000) (ha : a ≤ 100000) (hc : cells + 1 ≤ R.cells) (hs : slots + a ≤ R.slots)
    (kk : ∀ (q : Nat) (H1 : Heap), mRl s D cy A nL (va_up ad sh.length q) L (sh ++ [.inr (.inr (.inl a))]) (mnew σ sh.length) H1 locs ls → W p l e R s m args below meth c H1 locs (cells + 1) (slots + a) Q (F0 m (pc + 2) ls (.ref q :: rest))) : W p l e R s m args below meth c H locs cells slots Q (F0 m pc ls (.int (nI a) :: rest)) := by
  obtain ⟨hex, hbc, hml, hown, hts, hK, hA⟩ := hy
  obtain ⟨hP, hD, hS, hL⟩ := h
  refine va_newa (atype := .long) hex hbc hw rfl hK hP hD hS hA (a0 := (a, .inr (.inl (fun _ => 0)))) (N' := a) (fun _ => rfl) (nI_pos (by omega)) (nI_clamp (by omega)) (show a * 8 ≤ 536870912 by omega) hc hs hd (fun q cA H1 hK1 hP1 hD1 hS1 => ?_)
  have e1 := mcy_eq (k := 1) hK1 rfl
  subst e1
  exact kk q H1 (mW_push hL ho hos rfl hn rfl hP1 hD1 hS1)
theorem mW_newQ {a idx w : Nat} (hy : mHy p s m args c own cc nL D cy A) (h : mRl s D cy A nL ad L sh σ H locs ls) (hd : decode cc pc = .ok (.anewarray idx, 3)) (hw : mwat w (.classLink own idx "DustYard$State") = true) (hov : va_AO "DustYard$State" s) (ho : mokL sh.length L = true) (hos : mokS sh.length sh = true) (hn : sh.length < 1000) (ha : a ≤ 100000) (hc : cells + 1 ≤ R.cells) (hs : slots + a ≤ R.slots)
    (kk : ∀ (q : Nat) (H1 : Heap), mRl s D cy A nL (va_up ad sh.length q) L (sh ++ [.inr (.inr (.inr (List.replicate a none)))]) (mnew σ sh.length) H1 locs ls → W p l e R s m args below meth c H1 locs (cells + 1) (slots + a) Q (F0 m (pc + 3) ls (.ref q :: rest))) : W p l e R s m args below meth c H locs cells slots Q (F0 m pc ls (.int (nI a) :: rest)) := by
  obtain ⟨hex, hbc, hml, hown, hts, hK, hA⟩ := hy
  obtain ⟨hP, hD, hS, hL⟩ := h
  have hrep : ∀ n k : Nat, mokR n (List.replicate k none) = true := by
    intro n k
    induction k with
    | zero => rfl
    | succ k ih => rw [List.replicate_succ]; exact ih
  have ef : (fun i : Nat => (((List.replicate a (none : Option Nat))[i]?).getD none).map ad) = fun _ => none := by
    funext i
    cases hq : (List.replicate a (none : Option Nat))[i]? with
    | none => rfl
    | some y =>
      have := List.eq_of_mem_replicate (List.mem_of_getElem? hq)
      rw [this]; rfl
  refine va_newq hex hbc hown (mword hts hw) hov hK hP hD hS hA (N' := a) (nI_pos (by omega)) (nI_clamp (by omega)) (by omega) hc hs hd (fun q cA H1 hK1 hP1 hD1 hS1 => ?_)
  have e1 := mcy_eq (k := 2) hK1 rfl
  subst e1
  refine kk q H1 (mW_push hL ho hos (by simp [mokS, hrep]) hn ?_ hP1 hD1 hS1)
  simp only [mce, ef, List.length_replicate]
theorem mW_new {a idx w w1 w2 : Nat} (hy : mHy p s m args c own cc nL D cy A) (h : mRl s D cy A nL ad L sh σ H locs ls) (hd : decode cc pc = .ok (.new idx, 3)) (hw : mnwb own idx w a w1 w2 = true) (ho : mokL sh.length L = true) (hos : mokS sh.length sh = true) (hn : sh.length < 1000) (hc : cells + 1 ≤ R.cells) (hs : slots + (mbf a).length ≤ R.slots)
    (kk : ∀ (q : Nat) (H1 : Heap), mRl s D cy A nL (va_up ad sh.length q) L (sh ++ [.inl (a, mbf a)]) (mnew σ sh.length) H1 locs ls → W p l e R s m args below meth c H1 locs (cells + 1) (slots + (mbf a).length) Q (F0 m (pc + 3) ls (.ref q :: rest))) : W p l e R s m args below meth c H locs cells slots Q (F0 m pc ls rest) := by
  obtain ⟨hex, hbc, hml, hown, hts, hK, hA⟩ := hy
  obtain ⟨hP, hD, hS, hL⟩ := h
  unfold mnwb at hw
  split at hw
  · rename_i C T N hcl
    simp only [Bool.and_eq_true] at hw
    obtain ⟨hin, ty0, hty, hnm⟩ := vcl_ok a _ hcl
    obtain ⟨hlen, hdef⟩ := mbf_ok a _ hcl
    rw [hlen] at hs kk
    refine va_new (C := C) (T := T) (N := N) (fs := mfv ad (fun _ => 0) 0 (mbf a)) hex hbc hts hin ty0 hty hown (mword hts hw.1) (mword hts hw.2.1) (mword hts hw.2.2) hK hP hD hS hA hcl (fun j hj => hdef ad j hj _ (hty j hj)) hc hs hd (fun q H1 hP1 hD1 hS1 => ?_)
    exact kk q H1 (mW_push hL ho hos (mbf_S _ a) hn rfl hP1 hD1 hS1)
  · cases hw
end MAL
