/-! LINES OF THE LAW: what they say -/
def stp (ρ : Nat → Int32) (st : List Int32) (x : Int32) : List Int32 :=
  if (x &&& nI 31).toNatClampNeg = 0 then (x >>> (nI 5 &&& 31)) :: st
  else if (x &&& nI 31).toNatClampNeg ≤ 10 then ρ (x &&& nI 31).toNatClampNeg :: st
  else if (x &&& nI 31).toNatClampNeg = 11 then (match st with | a :: r => (nI 1 - a) :: r | [] => [])
  else (match st with | b :: a :: r => jn (x &&& nI 31).toNatClampNeg a b :: r | _ => [])
def exS (ρ : Nat → Int32) (c st : List Int32) : List Int32 := c.foldl (stp ρ) st
def cv (ρ : Nat → Int32) (c : List Int32) : Int32 := (exS ρ c []).headD (nI 0)
theorem cw_num : ∀ j, j < 1000 → (cw (nI j) 0 &&& nI 31) = nI 0 ∧ cw (nI j) 0 >>> (nI 5 &&& 31) = nI j := by decide +kernel
theorem cw_op : ∀ o, o < 17 → (cw (nI 0) o &&& nI 31) = nI o := by decide +kernel
theorem stp_num {ρ : Nat → Int32} {st : List Int32} {j : Nat} (h : j < 1000) : stp ρ st (cw (nI j) 0) = nI j :: st := by
  unfold stp
  rw [(cw_num j h).1, (cw_num j h).2, nI_clamp (by omega), if_pos rfl]
theorem stp_fact {ρ : Nat → Int32} {st : List Int32} {o : Nat} (h1 : 1 ≤ o) (h2 : o ≤ 10) : stp ρ st (cw (nI 0) o) = ρ o :: st := by
  unfold stp
  rw [cw_op o (by omega), nI_clamp (by omega), if_neg (by omega), if_pos h2]
theorem stp_not {ρ : Nat → Int32} {st : List Int32} {a : Int32} : stp ρ (a :: st) (cw (nI 0) 11) = (nI 1 - a) :: st := by
  unfold stp
  rw [cw_op 11 (by omega), nI_clamp (by omega), if_neg (by omega), if_neg (by omega), if_pos rfl]
theorem stp_bin {ρ : Nat → Int32} {st : List Int32} {a b : Int32} {o : Nat} (h1 : 12 ≤ o) (h2 : o ≤ 16) : stp ρ (b :: a :: st) (cw (nI 0) o) = jn o a b :: st := by
  unfold stp
  rw [cw_op o (by omega), nI_clamp (by omega), if_neg (by omega), if_neg (by omega), if_neg (by omega)]
theorem Wf.ex {ρ : Nat → Int32} {c : List Int32} {v : Int32} {k : Nat} (h : Wf ρ c v k) : ∀ st, exS ρ c st = v :: st := by
  refine h (fun c v _ => ∀ st, exS ρ c st = v :: st) (fun j hj st => stp_num hj) (fun o h1 h2 st => stp_fact h1 h2) (fun c v k ih st => ?_) (fun o c1 v1 k1 c2 v2 k2 h1 h2 i1 i2 st => ?_) (fun c v k k' ih _ => ih)
  · unfold exS at ih ⊢
    rw [List.foldl_append, ih st]
    exact stp_not (ρ := ρ)
  · unfold exS at i1 i2 ⊢
    rw [List.foldl_append, List.foldl_append, i1 st, i2]
    exact stp_bin h1 h2
theorem Wf.cvE {ρ : Nat → Int32} {c : List Int32} {v : Int32} {k : Nat} (h : Wf ρ c v k) : cv ρ c = v := by
  show (exS ρ c []).headD (nI 0) = v
  rw [h.ex []]
  rfl
theorem Wf.ne {ρ : Nat → Int32} {c : List Int32} {v : Int32} {k : Nat} (h : Wf ρ c v k) : c ≠ [] := by
  rintro rfl
  have := h.ex []
  cases this
abbrev lLn : Type := Nat × Int32 × List Int32
def lT (ρ : Nat → Int32) (c : List Int32) : Bool := decide (c = []) || decide (¬ cv ρ c = nI 0)
def lf (ρ : Nat → Int32) (x : Int32 × Int32) (l : lLn) : Int32 × Int32 := if lT ρ l.2.2 = true then (x.1 + (if l.1 = 0 then l.2.1 else if l.1 = 1 then -l.2.1 else nI 0), x.2 + (if l.1 = 2 then l.2.1 else nI 0)) else x
def lfs (ρ : Nat → Int32) (x : Int32 × Int32) (ls : List lLn) : Int32 × Int32 := ls.foldl (lf ρ) x
theorem lfs_snoc {ρ : Nat → Int32} {x : Int32 × Int32} {ls : List lLn} {l : lLn} : lfs ρ x (ls ++ [l]) = lf ρ (lfs ρ x ls) l := by
  unfold lfs
  rw [List.foldl_append]
  rfl
def lOk (l : lLn) : Prop := l.1 ≤ 2 ∧ (∃ j, j ≤ 99 ∧ l.2.1 = nI j) ∧ (l.2.2 = [] ∨ ∀ ρ, ∃ v, Wf ρ l.2.2 v 17)
def lOks (s : List lLn) : Prop := ∀ l, l ∈ s → lOk l
section PLN
variable (t : Nat → Int32) (n : Nat)
def pLine (b : Nat) (s : List lLn) : (Nat × List lLn) ⊕ Nat := match pW t n b [([109, 111, 114, 101], 0), ([108, 101, 115, 115], 1), ([116, 111, 108, 108], 2)] with
  | none => .inr b
  | some k => if nB t n (nx t n b) (nI 0) (nI 99) = true then (if wB t n (nx t n (nx t n b)) [105, 102] = true then (match pSome t n (pAtom t n 6) (nx t n (nx t n (nx t n b))) with
    | .inl (b', c) => .inl (b', s ++ [(k, nV t n (nx t n b), c)])
    | .inr e => .inr e) else .inl (nx t n (nx t n b), s ++ [(k, nV t n (nx t n b), [])])) else .inr (nx t n b)
end PLN
section GLN
variable {t : Nat → Int32} {n d : Nat} {σ0 : mSg}
theorem lOks_snoc {s : List lLn} {l : lLn} (h : lOks s) (h2 : lOk l) : lOks (s ++ [l]) := by
  intro x hx
  rcases List.mem_append.mp hx with h3 | h3
  · exact h x h3
  · rw [List.mem_singleton.mp h3]; exact h2
theorem gd_line : LnG t n (pLine t n) lOks List.length := by
  intro b s hb hs hI
  unfold pLine
  split
  · exact ⟨fun b' s' e => (by cases e), fun e h => by cases h; exact hb⟩
  · rename_i k hk
    obtain ⟨w, h1, h2⟩ := pW_some hk
    have h3 : 0 < w.length ∧ k ≤ 2 := by
      simp only [List.mem_cons, Prod.mk.injEq, List.not_mem_nil, or_false] at h1
      rcases h1 with ⟨rfl, rfl⟩ | ⟨rfl, rfl⟩ | ⟨rfl, rfl⟩ <;> exact ⟨by decide, by omega⟩
    have hlt := (wB_lt h2 h3.1).1
    have hgt := nx_gt (t := t) hlt
    have hb2 := nx_le (t := t) hb
    split
    · rename_i hn
      have hlt2 := (nB_lt hn).1
      have hgt2 := nx_gt (t := t) hlt2
      have hb3 := nx_le (t := t) hb2
      obtain ⟨j, -, hj, ej⟩ := nB_val hn (by omega) (by omega)
      split
      · rename_i hw
        have hlt3 := (wB_lt hw (by decide)).1
        have hgt3 := nx_gt (t := t) hlt3
        have hg := gd_some (gd_atom (t := t) (n := n) 6) (nx t n (nx t n (nx t n b))) (nx_le hb3) nx_sk
        split
        · rename_i b1 c1 e1
          obtain ⟨a1, a2, a3, a4, a5⟩ := hg.1 b1 c1 e1
          refine ⟨fun b' s' e => ?_, fun e h => by cases h⟩
          cases e
          exact ⟨by omega, a2, a3, lOks_snoc hI ⟨h3.2, ⟨j, hj, ej⟩, Or.inr a5⟩, List.length_append⟩
        · rename_i e e1
          exact ⟨fun b' s' e => (by cases e), fun e2 h => by cases h; exact hg.2 e e1⟩
      · refine ⟨fun b' s' e => ?_, fun e h => by cases h⟩
        cases e
        exact ⟨by omega, hb3, nx_sk, lOks_snoc hI ⟨h3.2, ⟨j, hj, ej⟩, Or.inl rfl⟩, List.length_append⟩
    · exact ⟨fun b' s' e => (by cases e), fun e h => by cases h; exact hb2⟩
theorem rho_congr {σ σ' : mSg} (h1 : σ 1 11 = σ' 1 11) (h2 : σ 0 15 = σ' 0 15) (h3 : ∀ k, σ 6 k = σ' 6 k) : rho σ = rho σ' := by
  funext k
  unfold rho
  split
  · rw [h1]
  · exact h2
  · rw [h3]
  · exact h3 _
  · exact h3 _
  · exact h3 _
  · exact h3 _
  · exact h3 _
  · exact h3 _
  · exact h3 _
  · rfl
def Wl (σ0 : mSg) (x0 : Int32 × Int32) (s : List lLn) : mSg := mput (mput σ0 0 16 (lfs (rho σ0) x0 s).1) 0 17 (lfs (rho σ0) x0 s).2
theorem Wl_at {x0 : Int32 × Int32} {s : List lLn} {c k : Nat} (h : c ≠ 0 ∨ (k ≠ 16 ∧ k ≠ 17)) : Wl σ0 x0 s c k = σ0 c k := by
  unfold Wl
  by_cases e : c = 0
  · subst e
    rw [mput_eq, upd_off (by omega), mput_eq, upd_off (by omega)]
  · rw [mput_ne e, mput_ne e]
theorem Wl_16 {x0 : Int32 × Int32} {s : List lLn} : Wl σ0 x0 s 0 16 = (lfs (rho σ0) x0 s).1 := by
  unfold Wl
  rw [mput_eq, upd_off (by omega), mput_eq, upd_at]
theorem Wl_17 {x0 : Int32 × Int32} {s : List lLn} : Wl σ0 x0 s 0 17 = (lfs (rho σ0) x0 s).2 := by
  unfold Wl
  rw [mput_eq, upd_at]
theorem Wl_rho {x0 : Int32 × Int32} {s : List lLn} : rho (Wl σ0 x0 s) = rho σ0 := rho_congr (Wl_at (by omega)) (Wl_at (by omega)) (fun k => Wl_at (by omega))
theorem Wl_tx {x0 : Int32 × Int32} (hT : TX σ0 t n) (s : List lLn) : TX (Wl σ0 x0 s) t n := by
  obtain ⟨h1, h2, h3⟩ := hT
  refine ⟨by rw [Wl_at (by omega)]; exact h1, h2, ?_⟩
  rcases h3 with ⟨h4, h5⟩ | ⟨h4, h5⟩
  · exact Or.inl ⟨by rw [Wl_at (by omega)]; exact h4, fun k hk => by rw [Wl_at (by omega)]; exact h5 k hk⟩
  · exact Or.inr ⟨by rw [Wl_at (by omega)]; exact h4, fun k hk => by rw [Wl_at (by omega)]; exact h5 k hk⟩
/-- two more sums -/
theorem Wl_put {x0 : Int32 × Int32} {s : List lLn} {l : lLn} {σ : mSg} {p : Nat} {f a b : Int32} {dp : Nat} (h : PS (Wl σ0 x0 s) σ p f dp) (e : lf (rho σ0) (lfs (rho σ0) x0 s) l = (a, b)) : PS (Wl σ0 x0 (s ++ [l])) (mput (mput σ 0 16 a) 0 17 b) p f dp := by
  refine ⟨fun c k hc => ?_, ?_, ?_, ?_⟩
  · by_cases e0 : c = 0
    · subst e0
      by_cases e17 : k = 17
      · subst e17
        rw [mput_eq, upd_at, Wl_17, lfs_snoc, e]
      · rw [mput_eq, upd_off e17]
        by_cases e16 : k = 16
        · subst e16
          rw [mput_eq, upd_at, Wl_16, lfs_snoc, e]
        · rw [mput_eq, upd_off e16, h.1 0 k hc, Wl_at (by omega), Wl_at (by omega)]
    · rw [mput_ne e0, mput_ne e0, h.1 c k hc, Wl_at (Or.inl e0), Wl_at (Or.inl e0)]
  · rw [mput_eq, upd_off (by omega), mput_eq, upd_off (by omega)]; exact h.2.1
  · rw [mput_eq, upd_off (by omega), mput_eq, upd_off (by omega)]; exact h.2.2.1
  · rw [mput_eq, upd_off (by omega), mput_eq, upd_off (by omega)]; exact h.2.2.2
theorem Wl_same {x0 : Int32 × Int32} {s : List lLn} {l : lLn} {σ : mSg} {p : Nat} {f : Int32} {dp : Nat} (h : PS (Wl σ0 x0 s) σ p f dp) (e : lf (rho σ0) (lfs (rho σ0) x0 s) l = lfs (rho σ0) x0 s) : PS (Wl σ0 x0 (s ++ [l])) σ p f dp := by
  have e2 : Wl σ0 x0 (s ++ [l]) = Wl σ0 x0 s := by
    unfold Wl
    rw [lfs_snoc, e]
  rw [e2]; exact h
end GLN
