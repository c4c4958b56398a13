/-! THE MODEL: texts of the yard and of the law -/
/-- behind a text -/
def MT (σ : mSg) (f : Nat → Int32) (th ac fl : Int32) (σ' : mSg) : Prop := σ' 1 = f ∧ σ' 2 = σ 2 ∧ σ' 4 = σ 4 ∧ σ' 5 = σ 5 ∧ σ' 0 0 = th ∧ σ' 0 3 = σ 0 3 ∧ σ' 0 6 = ac ∧ σ' 0 8 = nI 0 ∧ σ' 0 12 = fl ∧ k15 σ σ'
section MTX
variable {d : Nat} {σ : mSg} {Q : mPst} {n nc ns nd tp : Nat}
def bgW (σ : mSg) : mSg := mput (mput (mput (mput (mput (mput σ 0 12 (-(nI 1))) 0 9 (-(nI 1))) 0 10 (σ 0 8)) 0 8 (nI 0)) 0 11 (nI 0)) 0 13 (nI 0)
theorem g_begins (hq : Q (.inl none) sh_10 (bgW σ)) : mD (d + 1) 116 [.ref 0] sh_10 σ Q := by
  refine ⟨rfl, fun X hX => ?_⟩
  refine hX _ _ _ _ _ _ _ ?_
  exact hq
theorem bgW_ne {c : Nat} (h : c ≠ 0) : bgW σ c = σ c := by
  unfold bgW
  rw [mput_ne h, mput_ne h, mput_ne h, mput_ne h, mput_ne h, mput_ne h]
theorem g_yard {t : Nat → Int32} {x : Nat} (hB : BD (σ 1) n nc ns nd) (h0 : σ 1 0 = nI x) (hx : x ≤ 12) (h8 : σ 0 8 = nI tp) (ht : tp ≤ 400) (hb : ∀ k, k < tp → σ 5 k = t k)
    (q1 : ∀ s', pTx t tp (yLine t tp) 14 (sk t tp 0) (0, σ 1) = .inl s' → YI (σ 1) s'.2 → x ≠ 12 → ∀ σ', MT σ (upd s'.2 0 (nI (x + 1))) (nI 0) (nI 0) (-(nI 1)) σ' → Q (.inl (some (.int (nI (x + 1))))) sh_10 σ')
    (q2 : ∀ s', pTx t tp (yLine t tp) 14 (sk t tp 0) (0, σ 1) = .inl s' → x = 12 → ∀ σ', MT σ (σ 1) (nI 2) (σ 0 6) (-(nI 1)) σ' → Q (.inl (some (.int (nI 0)))) sh_10 σ')
    (q0 : ∀ e, pTx t tp (yLine t tp) 14 (sk t tp 0) (0, σ 1) = .inr e → e ≤ tp → ∀ σ', MT σ (σ 1) (nI 1) (σ 0 6) (nI e) σ' → Q (.inl (some (.int (nI 0)))) sh_10 σ') : mD (d + 9) 120 [.ref 0] sh_10 σ Q := by
  refine ⟨rfl, fun X hX => ?_⟩
  refine hX _ _ _ _ _ _ _ ?_
  refine g_putsAside (fun W p1 p2 => ?_)
  refine g_begins ?_
  have e1 : W 1 = σ 1 := p1 1 (by omega)
  have e5 : W 5 = σ 5 := p1 5 (by omega)
  have e0 : W 0 = σ 0 := p1 0 (by omega)
  have hT : ∀ s : Nat × (Nat → Int32), TX (mM (bgW W) s.2) t tp := by
    intro s
    refine ⟨?_, ht, Or.inl ⟨rfl, fun k hk => ?_⟩⟩
    · show W 0 8 = nI tp
      rw [e0]; exact h8
    · show W 5 k = t k
      rw [e5]; exact hb k hk
  have hTm : ∀ m, TX (mM (bgW W) m) t tp := fun m => hT (0, m)
  have hP0 : PS (mM (bgW W) (0, σ 1).2) (bgW W) 0 (-(nI 1)) 0 := by
    have : mM (bgW W) (σ 1) = bgW W := by
      rw [← e1]
      exact mM_self (bgW W)
    show PS (mM (bgW W) (σ 1)) (bgW W) 0 (-(nI 1)) 0
    rw [this]
    exact ⟨fun _ _ _ => rfl, rfl, rfl, rfl⟩
  have hMT : ∀ (σ' V : mSg) (f : Nat → Int32) (th ac fl : Int32), σ' 1 = f → (∀ c, c = 2 ∨ c = 4 ∨ c = 5 → σ' c = σ c) → σ' 0 0 = th → σ' 0 3 = σ 0 3 → σ' 0 6 = ac → σ' 0 8 = nI 0 → σ' 0 12 = fl → σ' 0 15 = σ 0 15 → MT σ f th ac fl σ' := fun σ' V f th ac fl a1 a2 a3 a4 a5 a6 a7 a8 => ⟨a1, a2 2 (by omega), a2 4 (by omega), a2 5 (by omega), a3, a4, a5, a6, a7, k15.e a8⟩
  have bk : ∀ (σ' : mSg) (m' : Nat → Int32) (p' : Nat) (fl : Int32), PS (mM (bgW W) m') σ' p' fl 0 → σ' 1 = m' ∧ (∀ c, c = 2 ∨ c = 4 ∨ c = 5 → σ' c = σ c) ∧ σ' 3 = W 3 ∧ σ' 0 3 = σ 0 3 ∧ σ' 0 6 = σ 0 6 ∧ σ' 0 8 = nI 0 ∧ σ' 0 12 = fl ∧ σ' 0 15 = σ 0 15 := by
    intro σ' m' p' fl h
    refine ⟨funext (fun k => h.1 1 k (by omega)), fun c hc => funext (fun k => ?_), funext (fun k => ?_), ?_, ?_, ?_, h.2.2.1, ?_⟩
    · rw [h.1 c k (by omega)]
      show (if c = 1 then m' else bgW W c) k = σ c k
      rw [if_neg (by omega), bgW_ne (by omega), p1 c (by omega)]
    · rw [h.1 3 k (by omega)]
      show (if 3 = 1 then m' else bgW W 3) k = W 3 k
      rw [if_neg (by omega), bgW_ne (by omega)]
    · exact (h.1 0 3 (by omega)).trans (congrFun e0 3)
    · exact (h.1 0 6 (by omega)).trans (congrFun e0 6)
    · exact h.1 0 8 (by omega)
    · exact (h.1 0 15 (by omega)).trans (congrFun e0 15)
  have back : ∀ (th fl : Int32) (V : mSg), (∀ i, 423 ≤ i → V 1 i = σ 1 i) → (∀ c, c = 2 ∨ c = 4 ∨ c = 5 → V c = σ c) → V 3 = W 3 → V 0 3 = σ 0 3 → V 0 6 = σ 0 6 → V 0 8 = nI 0 → V 0 12 = fl → V 0 15 = σ 0 15 → ¬ th ≤ 0 → (∀ σ', MT σ (σ 1) th (σ 0 6) fl σ' → Q (.inl (some (.int (nI 0)))) sh_10 σ') → X 43 [some (.ref 0), none] [.int th, .ref 0] sh_10 V 0 0 := by
    intro th fl V v1 v2 v3 v03 v06 v08 v12 v15 hth hq
    refine hX _ _ _ _ _ _ _ ?_
    refine ⟨fun z => absurd z hth, fun _ => ?_⟩
    refine g_comesBack (f := σ 1) (fun i hi => ?_) (fun i hi => v1 i hi) (fun U u1 u2 => ?_)
    · show V 3 i = σ 1 i
      rw [v3]; exact p2 i hi
    · refine hq U (hMT U U _ _ _ _ u2 (fun c hc => ?_) ?_ ?_ ?_ ?_ ?_ ?_)
      · exact (u1 c (by omega)).trans ((mput_ne (by omega)).trans (v2 c hc))
      · exact congrFun (u1 0 (by omega)) 0
      · exact (congrFun (u1 0 (by omega)) 3).trans v03
      · exact (congrFun (u1 0 (by omega)) 6).trans v06
      · exact (congrFun (u1 0 (by omega)) 8).trans v08
      · exact (congrFun (u1 0 (by omega)) 12).trans v12
      · exact (congrFun (u1 0 (by omega)) 15).trans v15
  refine g_read0 (t := t) (n := tp) (L := yLine t tp) (W := fun s => mM (bgW W) s.2) (I := fun s => YI (σ 1) s.2) (cnt := fun s => s.1) (s0 := (0, σ 1)) (p := 0) hT (g_yardLine hTm) gd_yline ⟨⟨n, nc, ns, nd, hB⟩, fun _ _ => rfl⟩ rfl (Nat.zero_le _) hP0 (fun s' he hI _ U p' hP => ?_) (fun e he hle U p' s' v hI hP => ?_)
  · obtain ⟨b1, b2, b3, b03, b06, b08, b12, b15⟩ := bk U s'.2 p' _ hP
    have e10 : U 1 0 = nI x := by rw [b1, hI.2 0 (by omega)]; exact h0
    refine ⟨fun _ => ?_, fun z => absurd b12 z⟩
    refine hX _ _ _ _ _ _ _ ?_
    refine ⟨vp_in_nI (n := 0) (by omega) (by omega), ?_⟩
    refine b_ne e10 (b := 12) rfl (by omega) (by omega) (fun h => ?_) (fun h => ?_)
    · refine hX _ _ _ _ _ _ _ ?_
      refine hX _ _ _ _ _ _ _ ?_
      refine ⟨fun _ => ?_, fun z => absurd (show nI 0 ≤ 0 from by decide +kernel) z⟩
      refine hX _ _ _ _ _ _ _ ?_
      refine ⟨vp_in_nI (n := 0) (by omega) (by omega), ?_⟩
      refine ⟨vp_in_nI (n := 0) (by omega) (by omega), ?_⟩
      refine ⟨vp_in_nI (n := 0) (by omega) (by omega), ?_⟩
      have ev : U 1 0 + nI 1 = nI (x + 1) := by rw [e10, nI_add]
      have e9 : upd (U 1) 0 (U 1 0 + nI 1) = upd s'.2 0 (nI (x + 1)) := by rw [ev, b1]
      refine qi (v := nI (x + 1)) ?_ (q1 s' he hI h _ (hMT _ U _ _ _ _ ?_ (fun c hc => ?_) rfl b03 rfl b08 b12 b15))
      · show nI (x + 1) = upd (U 1) 0 (U 1 0 + nI 1) 0
        rw [upd_at, ev]
      · exact e9
      · rw [mput_ne (by omega), mput_ne (by omega), mput_ne (by omega)]
        exact b2 c hc
    · exact back (nI 2) (-(nI 1)) U (fun i hi => by rw [b1]; exact hI.2 i (by omega)) b2 b3 b03 b06 b08 b12 b15 (by decide +kernel) (q2 s' he h)
  · obtain ⟨b1, b2, b3, b03, b06, b08, b12, b15⟩ := bk U s'.2 p' _ hP
    refine ⟨fun z => absurd (b12.symm.trans z) (oN_ne (k := e) (by omega)), fun _ => ?_⟩
    exact back (nI 1) (nI e) U (fun i hi => by rw [b1]; exact hI.2 i (by omega)) b2 b3 b03 b06 b08 b12 b15 (by decide +kernel) (q0 e he hle)
theorem g_law {t : Nat → Int32} (h15 : b01 (σ 0 15)) (h8 : σ 0 8 = nI tp) (ht : tp ≤ 400) (hb : ∀ k, k < tp → σ 5 k = t k)
    (q1 : ∀ ls, pTx t tp (pLine t tp) 12 (sk t tp 0) [] = .inl ls → lOks ls → ls.length ≤ 12 → ∀ f σ', f 1 = nI ls.length → f 2 = nI tp → (∀ k, k < tp → f (423 + k) = t k) → (∀ i, i ≠ 1 → i ≠ 2 → i < 423 → f i = σ 1 i) → MT σ f (nI 0) (nI 0) (-(nI 1)) σ' → Q (.inl (some (.int (nI ls.length)))) sh_10 σ')
    (q0 : ∀ e, pTx t tp (pLine t tp) 12 (sk t tp 0) [] = .inr e → e ≤ tp → ∀ σ', MT σ (σ 1) (nI 1) (σ 0 6) (nI e) σ' → Q (.inl (some (.int (nI 0)))) sh_10 σ') : mD (d + 31) 128 [.ref 0] sh_10 σ Q := by
  refine ⟨rfl, fun X hX => ?_⟩
  refine hX _ _ _ _ _ _ _ ?_
  refine g_begins ?_
  have hT : TX (bgW σ) t tp := ⟨h8, ht, Or.inl ⟨rfl, fun k hk => hb k hk⟩⟩
  have hW0 : ∀ c k, Wl (bgW σ) (σ 0 16, σ 0 17) [] c k = bgW σ c k := by
    intro c k
    by_cases hc : c = 0 ∧ (k = 16 ∨ k = 17)
    · obtain ⟨rfl, h | h⟩ := hc
      · rw [h, Wl_16]; rfl
      · rw [h, Wl_17]; rfl
    · exact Wl_at (by omega)
  have hP0 : PS (Wl (bgW σ) (σ 0 16, σ 0 17) []) (bgW σ) 0 (-(nI 1)) 0 := ⟨fun c k _ => (hW0 c k).symm, rfl, rfl, rfl⟩
  have bk : ∀ (σ' : mSg) (s' : List lLn) (p' : Nat) (fl : Int32), PS (Wl (bgW σ) (σ 0 16, σ 0 17) s') σ' p' fl 0 → (∀ c, c ≠ 0 → σ' c = σ c) ∧ σ' 0 3 = σ 0 3 ∧ σ' 0 6 = σ 0 6 ∧ σ' 0 8 = nI 0 ∧ σ' 0 12 = fl ∧ σ' 0 15 = σ 0 15 ∧ σ' 0 10 = nI tp := by
    intro σ' s' p' fl h
    refine ⟨fun c hc => funext (fun k => ?_), ?_, ?_, ?_, h.2.2.1, ?_, ?_⟩
    · rw [h.1 c k (by omega), Wl_at (by omega), bgW_ne hc]
    · rw [h.1 0 3 (by omega), Wl_at (by omega)]; rfl
    · rw [h.1 0 6 (by omega), Wl_at (by omega)]; rfl
    · rw [h.1 0 8 (by omega), Wl_at (by omega)]; rfl
    · rw [h.1 0 15 (by omega), Wl_at (by omega)]; rfl
    · rw [h.1 0 10 (by omega), Wl_at (by omega)]; exact h8
  refine g_read1 (t := t) (n := tp) (L := pLine t tp) (W := Wl (bgW σ) (σ 0 16, σ 0 17)) (I := lOks) (cnt := List.length) (s0 := []) (p := 0) (fun s => Wl_tx hT s) (g_lawLine hT h15) gd_line (fun l hl => by cases hl) rfl (Nat.zero_le _) hP0 (fun ls he hO hl U p' hP => ?_) (fun e he hle U p' s' v hI hP => ?_)
  · obtain ⟨b1, b03, b06, b08, b12, b15, b10⟩ := bk U ls p' _ hP
    refine ⟨fun _ => ?_, fun z => absurd b12 z⟩
    refine hX _ _ _ _ _ _ _ ?_
    refine hX _ _ _ _ _ _ _ ?_
    refine ⟨fun _ => ?_, fun z => absurd (show nI 0 ≤ 0 from by decide +kernel) z⟩
    have loop : ∀ (r k : Nat) (V : mSg), tp - k = r → k ≤ tp → (∀ c, 2 ≤ c → V c = σ c) → (∀ i, i ≠ 0 → V 0 i = U 0 i) → V 0 0 = nI 0 → V 1 1 = nI ls.length → V 1 2 = nI tp → (∀ j, j < k → V 1 (423 + j) = t j) → (∀ i, i ≠ 1 → i ≠ 2 → i < 423 → V 1 i = σ 1 i) → X 55 [some (.ref 0), some (.int (nI ls.length)), some (.int (nI k))] [] sh_10 V 0 0 := by
      intro r
      induction r with
      | zero =>
        intro k V hr hk v1 v0 v00 v11 v12 v2 v3
        have e10 : V 0 10 = nI tp := (v0 10 (by omega)).trans b10
        refine hX _ _ _ _ _ _ _ ?_
        refine b_ge rfl e10 (by omega) (by omega) (fun _ => ?_) (fun h => by omega)
        refine hX _ _ _ _ _ _ _ ?_
        refine q1 ls he hO hl (V 1) _ v11 v12 (fun j hj => v2 j (by omega)) v3 ⟨rfl, v1 2 (by omega), v1 4 (by omega), v1 5 (by omega), v00, (v0 3 (by omega)).trans b03, rfl, (v0 8 (by omega)).trans b08, (v0 12 (by omega)).trans b12, k15.e ((v0 15 (by omega)).trans b15)⟩
      | succ r ih =>
        intro k V hr hk v1 v0 v00 v11 v12 v2 v3
        have e10 : V 0 10 = nI tp := (v0 10 (by omega)).trans b10
        have i3 : nI 423 + nI k = nI (423 + k) := nI_add 423 k
        refine hX _ _ _ _ _ _ _ ?_
        refine b_ge rfl e10 (by omega) (by omega) (fun h => by omega) (fun _ => ?_)
        refine ⟨vp_in_nI (by omega) (by omega), ?_⟩
        refine ⟨vin i3 (by omega) (by omega), ?_⟩
        have h9 := ih (k + 1) (mput V 1 (nI 423 + nI k).toNatClampNeg (V 5 (nI k).toNatClampNeg)) (by omega) (by omega) (fun c hc => by rw [mput_ne (by omega)]; exact v1 c hc) (fun i hi => by rw [mput_ne (by omega)]; exact v0 i hi) v00 (by rw [mput_eq, clN i3 (by omega), upd_off (by omega)]; exact v11) (by rw [mput_eq, clN i3 (by omega), upd_off (by omega)]; exact v12) (fun j hj => by
          rw [mput_eq, clN i3 (by omega)]
          by_cases e : j = k
          · rw [e, upd_at, nI_clamp (by omega), v1 5 (by omega)]; exact hb k (by omega)
          · rw [upd_off (by omega)]; exact v2 j (by omega)) (fun i a b c => by rw [mput_eq, clN i3 (by omega), upd_off (by omega)]; exact v3 i a b c)
        rw [← nI_1 k] at h9
        exact h9
    refine hX _ _ _ _ _ _ _ ?_
    refine ⟨vp_in_nI (n := 1) (by omega) (by omega), ?_⟩
    refine ⟨vp_in_nI (n := 2) (by omega) (by omega), ?_⟩
    refine loop _ 0 _ rfl (Nat.zero_le _) (fun c hc => ?_) (fun i hi => ?_) rfl rfl b10 (fun j hj => absurd hj (by omega)) (fun i a b c => ?_)
    · rw [mput_ne (by omega), mput_ne (by omega), mput_ne (by omega)]
      exact b1 c (by omega)
    · rw [mput_ne (by omega), mput_ne (by omega), mput_eq, upd_off hi]
    · show upd (upd (U 1) 1 (nI ls.length)) 2 (U 0 10) i = σ 1 i
      rw [upd_off b, upd_off a]
      exact congrFun (b1 1 (by omega)) i
  · obtain ⟨b1, b03, b06, b08, b12, b15, b10⟩ := bk U s' p' _ hP
    refine ⟨fun z => absurd (b12.symm.trans z) (oN_ne (k := e) (by omega)), fun _ => ?_⟩
    refine hX _ _ _ _ _ _ _ ?_
    refine ⟨fun z => absurd (show nI 1 ≤ 0 from z) (by decide +kernel), fun _ => ?_⟩
    exact q0 e he hle _ ⟨(mput_ne (by omega)).trans (b1 1 (by omega)), (mput_ne (by omega)).trans (b1 2 (by omega)), (mput_ne (by omega)).trans (b1 4 (by omega)), (mput_ne (by omega)).trans (b1 5 (by omega)), rfl, b03, b06, b08, b12, k15.e b15⟩
end MTX
