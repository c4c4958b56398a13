/-! THE CLASS: what code of a law says -/
section JNV
variable {d : Nat} {σ : mSg} {m : Nat → Int32} {Q : mPst} {sh : List mSh}
theorem c_join {o : Nat} {l r : Int32} (h1 : 12 ≤ o) (h2 : o ≤ 16) (hq : Q (.inl (some (.int (jn o l r)))) sh σ) : mD (d + 1) 262 [.int (nI o), .int l, .int r] sh σ Q := by
  refine ⟨rfl, fun X hX => ?_⟩
  refine hX _ _ _ _ _ _ _ ?_
  have ho : o = 12 ∨ o = 13 ∨ o = 14 ∨ o = 15 ∨ o = 16 := by omega
  rcases ho with rfl | rfl | rfl | rfl | rfl
  · refine ⟨fun h => absurd h (by decide +kernel), fun _ => ?_, fun h => absurd h (by decide +kernel), fun h => absurd h (by decide +kernel), fun h => absurd h (by decide +kernel), trivial⟩
    refine hX _ _ _ _ _ _ _ ?_
    exact hq
  · refine ⟨fun h => absurd h (by decide +kernel), fun h => absurd h (by decide +kernel), fun _ => ?_, fun h => absurd h (by decide +kernel), fun h => absurd h (by decide +kernel), trivial⟩
    refine hX _ _ _ _ _ _ _ ?_
    have hq : Q (.inl (some (.int (if l < r then nI 1 else nI 0)))) sh σ := hq
    refine ⟨fun h => ?_, fun h => ?_⟩
    · refine hX _ _ _ _ _ _ _ ?_
      refine hX _ _ _ _ _ _ _ ?_
      rw [if_neg (Int32.not_lt.mpr (show r ≤ l from h))] at hq
      exact hq
    · refine hX _ _ _ _ _ _ _ ?_
      rw [if_pos (Int32.not_le.mp (show ¬ r ≤ l from h))] at hq
      exact hq
  · refine ⟨fun h => absurd h (by decide +kernel), fun h => absurd h (by decide +kernel), fun h => absurd h (by decide +kernel), fun _ => ?_, fun h => absurd h (by decide +kernel), trivial⟩
    refine hX _ _ _ _ _ _ _ ?_
    have hq : Q (.inl (some (.int (if r < l then nI 1 else nI 0)))) sh σ := hq
    refine ⟨fun h => ?_, fun h => ?_⟩
    · refine hX _ _ _ _ _ _ _ ?_
      refine hX _ _ _ _ _ _ _ ?_
      rw [if_neg (Int32.not_lt.mpr (show l ≤ r from h))] at hq
      exact hq
    · refine hX _ _ _ _ _ _ _ ?_
      rw [if_pos (Int32.not_le.mp (show ¬ l ≤ r from h))] at hq
      exact hq
  · refine ⟨fun h => absurd h (by decide +kernel), fun h => absurd h (by decide +kernel), fun h => absurd h (by decide +kernel), fun h => absurd h (by decide +kernel), fun _ => ?_, trivial⟩
    refine hX _ _ _ _ _ _ _ ?_
    exact hq
  · refine ⟨fun _ => ?_, fun h => absurd h (by decide +kernel), fun h => absurd h (by decide +kernel), fun h => absurd h (by decide +kernel), fun h => absurd h (by decide +kernel), trivial⟩
    refine hX _ _ _ _ _ _ _ ?_
    exact hq
theorem c_valueOf {o s : Nat} (h1 : 1 ≤ o) (h2 : o ≤ 10) (hs : s < 7) (h11 : b01 (m 11)) (hR : RS σ m) (hq : Q (.inl (some (.int (rhoF m s o)))) sh_7 σ) : mD (d + 2) 261 [.int (nI o), .ref 0, .int (nI s)] sh_7 σ Q := by
  refine ⟨rfl, fun X hX => ?_⟩
  refine hX _ _ _ _ _ _ _ ?_
  have ho : o = 1 ∨ o = 2 ∨ o = 3 ∨ o = 4 ∨ o = 5 ∨ o = 6 ∨ o = 7 ∨ o = 8 ∨ o = 9 ∨ o = 10 := by omega
  rcases ho with rfl | rfl | rfl | rfl | rfl | rfl | rfl | rfl | rfl | rfl
  · refine ⟨fun h => absurd h (by decide +kernel), fun _ => ?_, fun h => absurd h (by decide +kernel), fun h => absurd h (by decide +kernel), fun h => absurd h (by decide +kernel), fun h => absurd h (by decide +kernel), fun h => absurd h (by decide +kernel), fun h => absurd h (by decide +kernel), fun h => absurd h (by decide +kernel), fun h => absurd h (by decide +kernel), trivial⟩
    refine hX _ _ _ _ _ _ _ ?_
    exact hq
  · refine ⟨fun h => absurd h (by decide +kernel), fun h => absurd h (by decide +kernel), fun _ => ?_, fun h => absurd h (by decide +kernel), fun h => absurd h (by decide +kernel), fun h => absurd h (by decide +kernel), fun h => absurd h (by decide +kernel), fun h => absurd h (by decide +kernel), fun h => absurd h (by decide +kernel), fun h => absurd h (by decide +kernel), trivial⟩
    refine hX _ _ _ _ _ _ _ ?_
    refine c_xOf (o := some s) (fun k h => by cases h; exact hs) hR ?_
    exact hq
  · refine ⟨fun h => absurd h (by decide +kernel), fun h => absurd h (by decide +kernel), fun h => absurd h (by decide +kernel), fun _ => ?_, fun h => absurd h (by decide +kernel), fun h => absurd h (by decide +kernel), fun h => absurd h (by decide +kernel), fun h => absurd h (by decide +kernel), fun h => absurd h (by decide +kernel), fun h => absurd h (by decide +kernel), trivial⟩
    refine hX _ _ _ _ _ _ _ ?_
    refine c_yOf (o := some s) (fun k h => by cases h; exact hs) hR ?_
    exact hq
  · refine ⟨fun h => absurd h (by decide +kernel), fun h => absurd h (by decide +kernel), fun h => absurd h (by decide +kernel), fun h => absurd h (by decide +kernel), fun _ => ?_, fun h => absurd h (by decide +kernel), fun h => absurd h (by decide +kernel), fun h => absurd h (by decide +kernel), fun h => absurd h (by decide +kernel), fun h => absurd h (by decide +kernel), trivial⟩
    refine hX _ _ _ _ _ _ _ ?_
    refine c_waitsOf hs hR ?_
    exact hq
  · refine ⟨fun h => absurd h (by decide +kernel), fun h => absurd h (by decide +kernel), fun h => absurd h (by decide +kernel), fun h => absurd h (by decide +kernel), fun h => absurd h (by decide +kernel), fun _ => ?_, fun h => absurd h (by decide +kernel), fun h => absurd h (by decide +kernel), fun h => absurd h (by decide +kernel), fun h => absurd h (by decide +kernel), trivial⟩
    refine hX _ _ _ _ _ _ _ ?_
    refine c_loadOf hs hR ?_
    exact hq
  · refine ⟨fun h => absurd h (by decide +kernel), fun h => absurd h (by decide +kernel), fun h => absurd h (by decide +kernel), fun h => absurd h (by decide +kernel), fun h => absurd h (by decide +kernel), fun h => absurd h (by decide +kernel), fun _ => ?_, fun h => absurd h (by decide +kernel), fun h => absurd h (by decide +kernel), fun h => absurd h (by decide +kernel), trivial⟩
    refine hX _ _ _ _ _ _ _ ?_
    exact qi (hR.get rf0.2.2.2.2.2.2.2.1).symm hq
  · refine ⟨fun h => absurd h (by decide +kernel), fun h => absurd h (by decide +kernel), fun h => absurd h (by decide +kernel), fun h => absurd h (by decide +kernel), fun h => absurd h (by decide +kernel), fun h => absurd h (by decide +kernel), fun h => absurd h (by decide +kernel), fun _ => ?_, fun h => absurd h (by decide +kernel), fun h => absurd h (by decide +kernel), trivial⟩
    refine hX _ _ _ _ _ _ _ ?_
    refine ⟨by decide +kernel, ?_⟩
    have e : m 10 = σ 0 15 := (hR.get rf0.2.2.2.2.2.2.2.2.1).symm
    have hq : Q (.inl (some (.int (m 10 - m 10 / nI 100 * nI 100)))) sh_7 σ := hq
    rw [e] at hq
    exact hq
  · refine ⟨fun h => absurd h (by decide +kernel), fun h => absurd h (by decide +kernel), fun h => absurd h (by decide +kernel), fun h => absurd h (by decide +kernel), fun h => absurd h (by decide +kernel), fun h => absurd h (by decide +kernel), fun h => absurd h (by decide +kernel), fun h => absurd h (by decide +kernel), fun _ => ?_, fun h => absurd h (by decide +kernel), trivial⟩
    refine hX _ _ _ _ _ _ _ ?_
    have e : σ 0 16 = m 11 := hR.get rf0.2.2.2.2.2.2.2.2.2.1
    have hq : Q (.inl (some (.int (if m 11 = nI 1 then nI 1 else nI 0)))) sh_7 σ := hq
    refine ⟨fun h => ?_, fun h => ?_⟩
    · have h : σ 0 16 = 0 := h
      rw [e] at h
      rw [if_neg (fun z => absurd (z.symm.trans h) (by decide +kernel))] at hq
      refine hX _ _ _ _ _ _ _ ?_
      refine hX _ _ _ _ _ _ _ ?_
      exact hq
    · have h : ¬ σ 0 16 = 0 := h
      rw [e] at h
      rw [if_pos (b01_ne h11 h)] at hq
      refine hX _ _ _ _ _ _ _ ?_
      exact hq
  · refine ⟨fun h => absurd h (by decide +kernel), fun h => absurd h (by decide +kernel), fun h => absurd h (by decide +kernel), fun h => absurd h (by decide +kernel), fun h => absurd h (by decide +kernel), fun h => absurd h (by decide +kernel), fun h => absurd h (by decide +kernel), fun h => absurd h (by decide +kernel), fun h => absurd h (by decide +kernel), fun _ => ?_, trivial⟩
    refine hX _ _ _ _ _ _ _ ?_
    refine c_xOf (o := some s) (fun k h => by cases h; exact hs) hR ?_
    refine c_yOf (o := some s) (fun k h => by cases h; exact hs) hR ?_
    have hq : Q (.inl (some (.int (if m (20 + 9 * s) + m (21 + 9 * s) ≤ nI 9 then nI 0 else nI 1)))) sh_7 σ := hq
    refine ⟨fun h => ?_, fun h => ?_⟩
    · rw [if_pos (show m (20 + 9 * s) + m (21 + 9 * s) ≤ nI 9 from h)] at hq
      refine hX _ _ _ _ _ _ _ ?_
      refine hX _ _ _ _ _ _ _ ?_
      exact hq
    · rw [if_neg (show ¬ m (20 + 9 * s) + m (21 + 9 * s) ≤ nI 9 from h)] at hq
      refine hX _ _ _ _ _ _ _ ?_
      exact hq
  · refine ⟨fun _ => ?_, fun h => absurd h (by decide +kernel), fun h => absurd h (by decide +kernel), fun h => absurd h (by decide +kernel), fun h => absurd h (by decide +kernel), fun h => absurd h (by decide +kernel), fun h => absurd h (by decide +kernel), fun h => absurd h (by decide +kernel), fun h => absurd h (by decide +kernel), fun h => absurd h (by decide +kernel), trivial⟩
    refine hX _ _ _ _ _ _ _ ?_
    refine c_waitsOf hs hR ?_
    have hq : Q (.inl (some (.int (if m (22 + 9 * s) < nI 20 then nI 0 else nI 1)))) sh_7 σ := hq
    refine ⟨fun h => ?_, fun h => ?_⟩
    · rw [if_pos (show m (22 + 9 * s) < nI 20 from h)] at hq
      refine hX _ _ _ _ _ _ _ ?_
      refine hX _ _ _ _ _ _ _ ?_
      exact hq
    · rw [if_neg (show ¬ m (22 + 9 * s) < nI 20 from h)] at hq
      refine hX _ _ _ _ _ _ _ ?_
      exact hq
end JNV
theorem cat_at : ∀ {ls : List lLn} {i : Nat} {l : lLn}, ls[i]? = some l → ∃ r, cat ls = cat (ls.take i) ++ l.2.2 ++ r
  | [], i, l, h => by simp at h
  | a :: ls, 0, l, h => by
    cases h
    exact ⟨cat ls, by simp [cat]⟩
  | a :: ls, i + 1, l, h => by
    obtain ⟨r, hr⟩ := cat_at (ls := ls) (i := i) (l := l) h
    refine ⟨r, ?_⟩
    have e : cat (a :: ls) = a.2.2 ++ cat ls := by simp [cat]
    have e2 : cat ((a :: ls).take (i + 1)) = a.2.2 ++ cat (ls.take i) := by simp [cat]
    rw [e, e2, hr]
    simp only [List.append_assoc]
/-- the law at 0, a state at 7 -/
def HW (σ : mSg) (m : Nat → Int32) (ls : List lLn) : Prop := LDr σ ls [] ∧ RS (fun j => σ (mgl [(7, 9)] j)) m
section HLD
variable {d : Nat} {σ : mSg} {m : Nat → Int32} {Q : mPst} {ls : List lLn}
theorem RS.congr {σ2 : mSg} (h : RS σ m) (h2 : ∀ c, c < 9 → σ2 c = σ c) : RS σ2 m := by
  obtain ⟨h1, nx, h3, h4, h5⟩ := h
  refine ⟨fun c k i hr => by rw [h2 c (rp_lt hr).1]; exact h1 c k i hr, nx, h3, by rw [h2 7 (by omega)]; exact h4, fun a w ha hw => by rw [h2 8 (by omega)]; exact h5 a w ha hw⟩
theorem mgl9 {b c : Nat} (h : c < 9) : mgl [(b, 9)] c = b + c := by
  unfold mgl
  rw [show Nat.blt c 9 = true from Nat.ble_eq_true_of_le h]
theorem back9 {b c : Nat} {σ2 : mSg} (h : c < 9) : mback [(b, 9)] σ σ2 (mgl [(b, 9)] c) = σ2 c := by
  rw [mgl9 h, mback_in (by omega), Nat.add_sub_cancel_left]
theorem HW.back {σ2 : mSg} (h : HW σ m ls) (h2 : RS σ2 m) : HW (mback [(7, 9)] σ σ2) m ls := ⟨h.1, h2.congr (fun c hc => back9 hc)⟩
theorem HW.stk (h : HW σ m ls) {k : Nat} {v : Int32} : HW (mput σ 6 k v) m ls := ⟨h.1, h.2.congr (fun c hc => by show mput σ 6 k v (mgl [(7, 9)] c) = σ (mgl [(7, 9)] c); rw [mgl9 hc, mput_ne (by omega)])⟩
set_option maxHeartbeats 1000000 in
theorem c_holds {ln s : Nat} {l : lLn} (hl : ls[ln]? = some l) (hl2 : ln < 12) (hc : (cat ls).length ≤ 400) (ho : lOk l) (hs : s < 7) (h11 : b01 (m 11)) (hH : HW σ m ls) (q1 : lT (rhoF m s) l.2.2 = true → ∀ σ', HW σ' m ls → Q (.inl (some (.int (nI 1)))) sh_2_7 σ') (q0 : ¬ lT (rhoF m s) l.2.2 = true → ∀ σ', HW σ' m ls → Q (.inl (some (.int (nI 0)))) sh_2_7 σ') : mD (d + 3) 260 [.ref 0, .int (nI ln), .ref 7, .int (nI s)] sh_2_7 σ Q := by
  obtain ⟨r, hr⟩ := cat_at hl
  have hB : ∀ σ1, HW σ1 m ls → σ1 3 ln = nI (cat (ls.take ln)).length ∧ σ1 4 ln = nI ((cat (ls.take ln)).length + l.2.2.length) := fun σ1 h => ⟨(h.1.2.2.2.2 ln l hl).2.2.1, (h.1.2.2.2.2 ln l hl).2.2.2⟩
  have hC : ∀ σ1, HW σ1 m ls → ∀ j x, l.2.2[j]? = some x → σ1 5 ((cat (ls.take ln)).length + j) = x := by
    intro σ1 h j x hx
    refine h.1.2.2.2.1 _ x ?_
    have hj := (List.getElem?_eq_some_iff.mp hx).1
    rw [List.append_nil, hr, List.append_assoc, List.getElem?_append_right (by omega), Nat.add_sub_cancel_left, List.getElem?_append_left hj]
    exact hx
  have hE : (cat (ls.take ln)).length + l.2.2.length ≤ 400 := by
    rw [hr] at hc
    simp only [List.length_append] at hc
    omega
  generalize hO : (cat (ls.take ln)).length = O at *
  refine ⟨rfl, fun X hX => ?_⟩
  have FR : ∀ c v k, Wf (rhoF m s) c v k → 1 ≤ k ∧ ∀ off h σ1, h + k ≤ 32 → off + c.length ≤ l.2.2.length → (∀ j x, c[j]? = some x → l.2.2[off + j]? = some x) → HW σ1 m ls → (∀ σ2, HW σ2 m ls → (∀ q, q < h → σ2 6 q = σ1 6 q) → σ2 6 h = v → X 11 [some (.ref 0), some (.int (nI ln)), some (.ref 7), some (.int (nI s)), some (.int (nI (h + 1))), some (.int (nI (O + (off + c.length)))), none] [] sh_2_7 σ2 0 0) → X 11 [some (.ref 0), some (.int (nI ln)), some (.ref 7), some (.int (nI s)), some (.int (nI h)), some (.int (nI (O + off))), none] [] sh_2_7 σ1 0 0 := by
    intro c v k hw
    refine hw (fun c v k => 1 ≤ k ∧ ∀ off h σ1, h + k ≤ 32 → off + c.length ≤ l.2.2.length → (∀ j x, c[j]? = some x → l.2.2[off + j]? = some x) → HW σ1 m ls → (∀ σ2, HW σ2 m ls → (∀ q, q < h → σ2 6 q = σ1 6 q) → σ2 6 h = v → X 11 [some (.ref 0), some (.int (nI ln)), some (.ref 7), some (.int (nI s)), some (.int (nI (h + 1))), some (.int (nI (O + (off + c.length)))), none] [] sh_2_7 σ2 0 0) → X 11 [some (.ref 0), some (.int (nI ln)), some (.ref 7), some (.int (nI s)), some (.int (nI h)), some (.int (nI (O + off))), none] [] sh_2_7 σ1 0 0) ?_ ?_ ?_ ?_ ?_
    · -- a number
      intro j hj
      refine ⟨by omega, ?_⟩
      intro off h σ1 hh hof hcd hw1 K
      have hof : off + 1 ≤ l.2.2.length := hof
      have ec : σ1 5 (nI (O + off)).toNatClampNeg = cw (nI j) 0 := by rw [nI_clamp (by omega)]; exact hC σ1 hw1 off _ (hcd 0 _ rfl)
      have ee : σ1 4 (nI ln).toNatClampNeg = nI (O + l.2.2.length) := by rw [nI_clamp (by omega)]; exact (hB σ1 hw1).2
      have eo : σ1 5 (nI (O + off)).toNatClampNeg &&& nI 31 = nI 0 := by rw [ec]; exact (cw_num j hj).1
      refine hX _ _ _ _ _ _ _ ?_
      refine ⟨vp_in_nI (by omega) (by omega), ?_⟩
      refine b_ge rfl ee (by omega) (by omega) (fun h => by omega) (fun _ => ?_)
      refine ⟨vp_in_nI (by omega) (by omega), ?_⟩
      refine b_ge eo (b := 11) rfl (by omega) (by omega) (fun h => by omega) (fun _ => ?_)
      refine b_ge rfl (b := 32) rfl (by omega) (by omega) (fun h => by omega) (fun _ => ?_)
      refine b_ne eo (b := 0) rfl (by omega) (by omega) (fun h => absurd rfl h) (fun _ => ?_)
      refine ⟨vp_in_nI (by omega) (by omega), ?_⟩
      refine hX _ _ _ _ _ _ _ ?_
      refine ⟨vp_in_nI (by omega) (by omega), ?_⟩
      refine hX _ _ _ _ _ _ _ ?_
      have h9 := K (mput σ1 6 (nI h).toNatClampNeg (σ1 5 (nI (O + off)).toNatClampNeg >>> (nI 5 &&& 31))) hw1.stk (fun q hq => by rw [mput_eq, nI_clamp (by omega), upd_off (by omega)]) (by rw [mput_eq, nI_clamp (n := h) (by omega), upd_at, ec]; exact (cw_num j hj).2)
      rw [← nI_1 h, show O + (off + [cw (nI j) 0].length) = O + off + 1 by simp only [List.length_singleton]; omega, ← nI_1 (O + off)] at h9
      exact h9
    · -- a fact
      intro o ho1 ho2
      refine ⟨by omega, ?_⟩
      intro off h σ1 hh hof hcd hw1 K
      have hof : off + 1 ≤ l.2.2.length := hof
      have ec : σ1 5 (nI (O + off)).toNatClampNeg = cw (nI 0) o := by rw [nI_clamp (by omega)]; exact hC σ1 hw1 off _ (hcd 0 _ rfl)
      have ee : σ1 4 (nI ln).toNatClampNeg = nI (O + l.2.2.length) := by rw [nI_clamp (by omega)]; exact (hB σ1 hw1).2
      have eo : σ1 5 (nI (O + off)).toNatClampNeg &&& nI 31 = nI o := by rw [ec]; exact cw_op o (by omega)
      refine hX _ _ _ _ _ _ _ ?_
      refine ⟨vp_in_nI (by omega) (by omega), ?_⟩
      refine b_ge rfl ee (by omega) (by omega) (fun h => by omega) (fun _ => ?_)
      refine ⟨vp_in_nI (by omega) (by omega), ?_⟩
      refine b_ge eo (b := 11) rfl (by omega) (by omega) (fun h => by omega) (fun _ => ?_)
      refine b_ge rfl (b := 32) rfl (by omega) (by omega) (fun h => by omega) (fun _ => ?_)
      refine b_ne eo (b := 0) rfl (by omega) (by omega) (fun _ => ?_) (fun h => by omega)
      have v74 : X 74 [some (.ref 0), some (.int (nI ln)), some (.ref 7), some (.int (nI s)), some (.int (nI h)), some (.int (nI (O + off))), some (.int (nI o))] [.int (nI h), .ref 6] sh_2_7 σ1 0 0 := by
        refine hX _ _ _ _ _ _ _ ?_
        refine c_valueOf ho1 ho2 hs h11 hw1.2 ?_
        refine hX _ _ _ _ _ _ _ ?_
        refine ⟨vp_in_nI (by omega) (by omega), ?_⟩
        refine hX _ _ _ _ _ _ _ ?_
        have h9 := K (mput (mback [(7, 9)] σ1 (fun j => σ1 (mgl [(7, 9)] j))) 6 (nI h).toNatClampNeg (rhoF m s o)) (hw1.back hw1.2).stk (fun q hq => by rw [mput_eq, nI_clamp (by omega), upd_off (by omega)]; rfl) (by rw [mput_eq, nI_clamp (by omega), upd_at])
        rw [← nI_1 h, show O + (off + [cw (nI 0) o].length) = O + off + 1 by simp only [List.length_singleton]; omega, ← nI_1 (O + off)] at h9
        exact h9
      rw [← eo] at v74
      exact v74
    · -- not
      intro c v k ih
      refine ⟨ih.1, ?_⟩
      have hk1 := ih.1
      intro off h σ1 hh hof hcd hw1 K
      rw [List.length_append, List.length_singleton] at hof
      refine ih.2 off h σ1 hh (by omega) (fun j x hx => hcd j x (by rw [List.getElem?_append_left (List.getElem?_eq_some_iff.mp hx).1]; exact hx)) hw1 ?_
      intro σ2 hw2 hst hv
      have ec : σ2 5 (nI (O + (off + c.length))).toNatClampNeg = cw (nI 0) 11 := by
        rw [nI_clamp (by omega)]
        exact hC σ2 hw2 _ _ (hcd c.length _ (by rw [List.getElem?_append_right (Nat.le_refl _), Nat.sub_self]; rfl))
      have ee : σ2 4 (nI ln).toNatClampNeg = nI (O + l.2.2.length) := by rw [nI_clamp (by omega)]; exact (hB σ2 hw2).2
      have eo : σ2 5 (nI (O + (off + c.length))).toNatClampNeg &&& nI 31 = nI 11 := by rw [ec]; exact cw_op 11 (by omega)
      refine hX _ _ _ _ _ _ _ ?_
      refine ⟨vp_in_nI (by omega) (by omega), ?_⟩
      refine b_ge rfl ee (by omega) (by omega) (fun h => by omega) (fun _ => ?_)
      refine ⟨vp_in_nI (by omega) (by omega), ?_⟩
      refine b_ge eo (b := 11) rfl (by omega) (by omega) (fun _ => ?_) (fun h => by omega)
      have ei : nI (h + 1) - nI 1 = nI h := by rw [nI_sub (by omega), Nat.add_sub_cancel]
      have v88 : X 88 [some (.ref 0), some (.int (nI ln)), some (.ref 7), some (.int (nI s)), some (.int (nI (h + 1))), some (.int (nI (O + (off + c.length)))), some (.int (nI 11))] [] sh_2_7 σ2 0 0 := by
        refine hX _ _ _ _ _ _ _ ?_
        refine b_ne rfl (b := 11) rfl (by omega) (by omega) (fun h => absurd rfl h) (fun _ => ?_)
        refine b_lt rfl (b := 1) rfl (by omega) (by omega) (fun h => by omega) (fun _ => ?_)
        refine ⟨vin ei (by omega) (by omega), vin ei (by omega) (by omega), ?_⟩
        refine hX _ _ _ _ _ _ _ ?_
        have h9 := K (mput σ2 6 (nI (h + 1) - nI 1).toNatClampNeg (nI 1 - σ2 6 (nI (h + 1) - nI 1).toNatClampNeg)) hw2.stk (fun q hq => by rw [mput_eq, clN ei (by omega), upd_off (by omega)]; exact hst q hq) (by rw [mput_eq, clN ei (by omega), upd_at, hv])
        rw [show O + (off + (c ++ [cw (nI 0) 11]).length) = O + (off + c.length) + 1 by rw [List.length_append, List.length_singleton]; omega, ← nI_1 (O + (off + c.length))] at h9
        exact h9
      rw [← eo] at v88
      exact v88
    · -- two of them
      intro o c1 v1 k1 c2 v2 k2 ho1 ho2 i1 i2
      refine ⟨by omega, ?_⟩
      have hk1 := i1.1
      have hk2 := i2.1
      intro off h σ1 hh hof hcd hw1 K
      rw [List.length_append, List.length_append, List.length_singleton] at hof
      refine i1.2 off h σ1 (by omega) (by omega) (fun j x hx => hcd j x (by rw [List.append_assoc, List.getElem?_append_left (List.getElem?_eq_some_iff.mp hx).1]; exact hx)) hw1 ?_
      intro σ2 hw2 hst hv1
      refine i2.2 (off + c1.length) (h + 1) σ2 (by omega) (by omega) (fun j x hx => ?_) hw2 ?_
      · rw [Nat.add_assoc]
        refine hcd (c1.length + j) x ?_
        rw [List.append_assoc, List.getElem?_append_right (by omega), Nat.add_sub_cancel_left, List.getElem?_append_left (List.getElem?_eq_some_iff.mp hx).1]
        exact hx
      intro σ3 hw3 hst2 hv2
      have ec : σ3 5 (nI (O + (off + c1.length + c2.length))).toNatClampNeg = cw (nI 0) o := by
        rw [nI_clamp (by omega), Nat.add_assoc off]
        refine hC σ3 hw3 _ _ (hcd (c1.length + c2.length) _ ?_)
        rw [List.getElem?_append_right (by rw [List.length_append]; omega), List.length_append, Nat.sub_self]; rfl
      have ee : σ3 4 (nI ln).toNatClampNeg = nI (O + l.2.2.length) := by rw [nI_clamp (by omega)]; exact (hB σ3 hw3).2
      have eo : σ3 5 (nI (O + (off + c1.length + c2.length))).toNatClampNeg &&& nI 31 = nI o := by rw [ec]; exact cw_op o (by omega)
      refine hX _ _ _ _ _ _ _ ?_
      refine ⟨vp_in_nI (by omega) (by omega), ?_⟩
      refine b_ge rfl ee (by omega) (by omega) (fun h => by omega) (fun _ => ?_)
      refine ⟨vp_in_nI (by omega) (by omega), ?_⟩
      refine b_ge eo (b := 11) rfl (by omega) (by omega) (fun _ => ?_) (fun h => by omega)
      have e1 : nI (h + 1 + 1) - nI 1 = nI (h + 1) := by rw [nI_sub (by omega), Nat.add_sub_cancel]
      have e2 : nI (h + 1 + 1) - nI 1 - nI 1 = nI h := by rw [e1, nI_sub (by omega), Nat.add_sub_cancel]
      have v88 : X 88 [some (.ref 0), some (.int (nI ln)), some (.ref 7), some (.int (nI s)), some (.int (nI (h + 1 + 1))), some (.int (nI (O + (off + c1.length + c2.length)))), some (.int (nI o))] [] sh_2_7 σ3 0 0 := by
        refine hX _ _ _ _ _ _ _ ?_
        refine b_ne rfl (b := 11) rfl (by omega) (by omega) (fun _ => ?_) (fun h => by omega)
        refine hX _ _ _ _ _ _ _ ?_
        refine b_lt rfl (b := 2) rfl (by omega) (by omega) (fun h => by omega) (fun _ => ?_)
        refine ⟨vin e2 (by omega) (by omega), vin e1 (by omega) (by omega), ?_⟩
        refine c_join ho1 ho2 ?_
        refine ⟨vin e2 (by omega) (by omega), ?_⟩
        refine hX _ _ _ _ _ _ _ ?_
        have h9 := K (mput σ3 6 (nI (h + 1 + 1) - nI 1 - nI 1).toNatClampNeg (jn o (σ3 6 (nI (h + 1 + 1) - nI 1 - nI 1).toNatClampNeg) (σ3 6 (nI (h + 1 + 1) - nI 1).toNatClampNeg))) hw3.stk (fun q hq => by rw [mput_eq, clN e2 (by omega), upd_off (by omega), hst2 q (by omega)]; exact hst q hq) (by rw [mput_eq, clN e2 (by omega), clN e1 (by omega), upd_at, hv2, hst2 h (by omega), hv1])
        rw [show O + (off + (c1 ++ c2 ++ [cw (nI 0) o]).length) = O + (off + c1.length + c2.length) + 1 by rw [List.length_append, List.length_append, List.length_singleton]; omega, ← nI_1 (O + (off + c1.length + c2.length)), ← e1] at h9
        exact h9
      rw [← eo] at v88
      exact v88
    · intro c v k k' ih hk
      have hk1 := ih.1
      refine ⟨by omega, ?_⟩
      intro off h σ1 hh hof hcd hw1 K
      exact ih.2 off h σ1 (by omega) hof hcd hw1 K
  have y1 : lT (rhoF m s) l.2.2 = true → ∀ σ2, HW σ2 m ls → X 186 [none, none, none, none, none, none, none] [] sh_2_7 σ2 0 0 := by
    intro hlT σ2 h2
    refine hX _ _ _ _ _ _ _ ?_
    refine hX _ _ _ _ _ _ _ ?_
    exact ⟨Or.inr rfl, q1 hlT σ2 h2⟩
  refine hX _ _ _ _ _ _ _ ?_
  refine ⟨vp_in_nI (by omega) (by omega), ?_⟩
  have ent : X 11 [some (.ref 0), some (.int (nI ln)), some (.ref 7), some (.int (nI s)), some (.int (nI 0)), some (.int (nI O)), none] [] sh_2_7 σ 0 0 := by
    rcases ho.2.2 with he | hW
    · have ee : σ 4 (nI ln).toNatClampNeg = nI O := by
        rw [nI_clamp (by omega), (hB σ hH).2, he]; rfl
      refine hX _ _ _ _ _ _ _ ?_
      refine ⟨vp_in_nI (by omega) (by omega), ?_⟩
      refine b_ge rfl ee (by omega) (by omega) (fun _ => ?_) (fun h => by omega)
      refine hX _ _ _ _ _ _ _ ?_
      refine ⟨fun _ => ?_, fun h => absurd rfl h⟩
      exact y1 (by unfold lT; rw [he]; rfl) σ hH
    · obtain ⟨v, hv⟩ := hW (rhoF m s)
      have hlv : lT (rhoF m s) l.2.2 = true ↔ ¬ v = nI 0 := by
        unfold lT
        rw [hv.cvE, Bool.or_eq_true, decide_eq_true_eq, decide_eq_true_eq]
        exact ⟨fun z => z.resolve_left hv.ne, Or.inr⟩
      refine (FR _ v 17 hv).2 0 0 σ (by omega) (by omega) (fun j x hx => by rw [Nat.zero_add]; exact hx) hH ?_
      intro σ2 h2 _ hv2
      have ee : σ2 4 (nI ln).toNatClampNeg = nI (O + l.2.2.length) := by rw [nI_clamp (by omega)]; exact (hB σ2 h2).2
      refine hX _ _ _ _ _ _ _ ?_
      refine ⟨vp_in_nI (by omega) (by omega), ?_⟩
      refine b_ge rfl ee (by omega) (by omega) (fun _ => ?_) (fun h => by omega)
      refine hX _ _ _ _ _ _ _ ?_
      refine ⟨fun h => absurd h (by decide +kernel), fun _ => ?_⟩
      have ei : nI (0 + 1) - nI 1 = nI 0 := by decide +kernel
      refine ⟨vin ei (by omega) (by omega), ?_⟩
      have ev : σ2 6 (nI (0 + 1) - nI 1).toNatClampNeg = v := by rw [clN ei (by omega)]; exact hv2
      refine ⟨fun h => ?_, fun h => ?_⟩
      · have h : σ2 6 (nI (0 + 1) - nI 1).toNatClampNeg = 0 := h
        rw [ev] at h
        refine hX _ _ _ _ _ _ _ ?_
        refine hX _ _ _ _ _ _ _ ?_
        exact ⟨Or.inl rfl, q0 (fun z => hlv.mp z h) σ2 h2⟩
      · have h : ¬ σ2 6 (nI (0 + 1) - nI 1).toNatClampNeg = 0 := h
        rw [ev] at h
        exact y1 (hlv.mpr h) σ2 h2
  have e3 : σ 3 (nI ln).toNatClampNeg = nI O := by rw [nI_clamp (by omega)]; exact (hB σ hH).1
  rw [← e3] at ent
  exact ent
end HLD
