/-! THE MODEL: what the law says of a street -/
def k15 (σ σ' : mSg) : Prop := b01 (σ 0 15) → b01 (σ' 0 15)
theorem k15.e {σ σ' : mSg} (h : σ' 0 15 = σ 0 15) : k15 σ σ' := fun z => by rw [h]; exact z
def MW (σ0 : mSg) (f : Nat → Int32) (σ : mSg) : Prop := σ 1 = f ∧ (∀ c, 2 ≤ c → c ≤ 5 → σ c = σ0 c) ∧ σ 0 0 = σ0 0 0 ∧ σ 0 3 = σ0 0 3 ∧ σ 0 6 = σ0 0 6 ∧ σ 0 8 = σ0 0 8 ∧ σ 0 12 = σ0 0 12 ∧ k15 σ0 σ
theorem MW.refl (σ : mSg) : MW σ (σ 1) σ := ⟨rfl, fun _ _ _ => rfl, rfl, rfl, rfl, rfl, rfl, fun z => z⟩
theorem MW.trans {σ0 σ1 σ2 : mSg} {f g : Nat → Int32} (h : MW σ0 f σ1) (h2 : MW σ1 g σ2) : MW σ0 g σ2 := ⟨h2.1, fun c a b => (h2.2.1 c a b).trans (h.2.1 c a b), h2.2.2.1.trans h.2.2.1, h2.2.2.2.1.trans h.2.2.2.1, h2.2.2.2.2.1.trans h.2.2.2.2.1, h2.2.2.2.2.2.1.trans h.2.2.2.2.2.1, h2.2.2.2.2.2.2.1.trans h.2.2.2.2.2.2.1, fun z => h2.2.2.2.2.2.2.2 (h.2.2.2.2.2.2.2 z)⟩
theorem MW.mk2 {σ0 σ : mSg} {f : Nat → Int32} (h : MW σ0 f σ) (g : Nat → Int32) : MW σ0 g (mM σ g) := ⟨rfl, fun c a b => by rw [← h.2.1 c a b]; unfold mM; rw [if_neg (by omega)], h.2.2.1, h.2.2.2.1, h.2.2.2.2.1, h.2.2.2.2.2.1, h.2.2.2.2.2.2.1, fun z => h.2.2.2.2.2.2.2 z⟩
theorem MW.eq {σ0 σ : mSg} {f : Nat → Int32} (h : MW σ0 f σ) : mM σ f = σ := by
  rw [← h.1]; exact mM_self σ
/-- so many of a row's numbers -/
def nrm (n : Nat) (g : Nat → Int32) : Nat → Int32 := fun k => if k < n then g k else nI 0
/-- what the law knows of a street -/
def rhoF (f : Nat → Int32) (s : Nat) : Nat → Int32
  | 1 => nI s
  | 2 => f (20 + 9 * s)
  | 3 => f (21 + 9 * s)
  | 4 => f (22 + 9 * s)
  | 5 => sLoad f s
  | 6 => f 9
  | 7 => f 10 - f 10 / nI 100 * nI 100
  | 8 => if f 11 = nI 1 then nI 1 else nI 0
  | 9 => if f (20 + 9 * s) + f (21 + 9 * s) ≤ nI 9 then nI 0 else nI 1
  | 10 => if f (22 + 9 * s) < nI 20 then nI 0 else nI 1
  | _ => nI 0
def sFi (ls : List lLn) (f : Nat → Int32) (s : Nat) : Int32 := sMax (nI 0) (lfs (rhoF f s) (nI 1, nI 0) ls).1
def sTo (ls : List lLn) (f : Nat → Int32) (s : Nat) : Int32 := (lfs (rhoF f s) (nI 1, nI 0) ls).2
/-- the law's text in the model's row, and its lines -/
def LTx (f : Nat → Int32) (ls : List lLn) : Prop := ∃ n, n ≤ 400 ∧ ((f 1 < nI 1 ∧ n = 0) ∨ (nI 1 ≤ f 1 ∧ f 2 = nI n)) ∧ pTx (nrm n (fun k => f (423 + k))) n (pLine (nrm n (fun k => f (423 + k))) n) 12 (sk (nrm n (fun k => f (423 + k))) n 0) [] = .inl ls
section ASK
variable {d : Nat} {σ0 σ : mSg} {f : Nat → Int32} {Q : mPst} {ls : List lLn}
theorem asks_read {n : Nat} {t : Nat → Int32} (h16 : σ 0 16 = nI 1) (h17 : σ 0 17 = nI 0) (h15 : b01 (σ 0 15)) (h9 : σ 0 9 = nI 423) (h10 : σ 0 10 = nI n) (hn : n ≤ 400) (h11 : σ 0 11 = nI 0) (h12 : σ 0 12 = -(nI 1)) (h13 : σ 0 13 = nI 0) (ht : ∀ k, k < n → σ 1 (423 + k) = t k) (hl : pTx t n (pLine t n) 12 (sk t n 0) [] = .inl ls) (hq : ∀ σ' v, (∀ c k, c ≠ 0 ∨ (k ≠ 11 ∧ k ≠ 12 ∧ k ≠ 13 ∧ k ≠ 16 ∧ k ≠ 17) → σ' c k = σ c k) → σ' 0 16 = (lfs (rho σ) (nI 1, nI 0) ls).1 → σ' 0 17 = (lfs (rho σ) (nI 1, nI 0) ls).2 → Q (.inl (some (.int v))) sh_10 σ') : mD (d + 30) 117 [.ref 0, .int (nI 1)] sh_10 σ Q := by
  have hT : TX σ t n := ⟨h10, hn, Or.inr ⟨h9, ht⟩⟩
  have hP : PS (Wl σ (nI 1, nI 0) []) σ 0 (-(nI 1)) 0 := by
    refine ⟨fun c k hc => ?_, h11, h12, h13⟩
    by_cases e : c = 0 ∧ (k = 16 ∨ k = 17)
    · obtain ⟨rfl, rfl | rfl⟩ := e
      · rw [Wl_16]; exact h16
      · rw [Wl_17]; exact h17
    · rw [Wl_at (by omega)]
  have hL : LnP t n (pLine t n) (Wl σ (nI 1, nI 0)) lOks 127 (d + 29) := g_lawLine hT h15
  refine g_read1 (d := d + 26) (Wl_tx hT) hL gd_line (s0 := []) (fun l h => absurd h List.not_mem_nil) rfl (Nat.zero_le _) hP (fun s' e _ _ σ' p' h => ?_) (fun e he => ?_)
  · rw [hl] at e
    cases e
    refine hq σ' _ (fun c k hc => ?_) ?_ ?_
    · rw [h.1 c k (by omega), Wl_at (by omega)]
    · rw [h.1 0 16 (by omega), Wl_16]
    · rw [h.1 0 17 (by omega), Wl_17]
  · rw [hl] at he
    cases he
theorem asks_off {c : Nat} {a1 a2 a3 a4 a5 a6 a7 a8 a9 : Int32} (h1 : 1 ≤ c) (h2 : c ≤ 5) : mput (mput (mput (mput (mput (mput (mput (mput (mput σ 0 16 a1) 0 17 a2) 6 (nI 0).toNatClampNeg a3) 6 (nI 1).toNatClampNeg a4) 6 (nI 2).toNatClampNeg a5) 6 (nI 3).toNatClampNeg a6) 6 (nI 4).toNatClampNeg a7) 6 (nI 5).toNatClampNeg a8) 6 (nI 6).toNatClampNeg a9 c = σ c := by
  rw [mput_ne (by omega), mput_ne (by omega), mput_ne (by omega), mput_ne (by omega), mput_ne (by omega), mput_ne (by omega), mput_ne (by omega), mput_ne (by omega), mput_ne (by omega)]
theorem asks_rho {s : Nat} {σ1 : mSg} (h1 : σ1 6 0 = nI s) (h2 : σ1 6 1 = f (20 + 9 * s)) (h3 : σ1 6 2 = f (20 + 9 * s + 1)) (h4 : σ1 6 3 = f (20 + 9 * s + 2)) (h5 : σ1 6 4 = sLoad f s ∧ σ1 6 5 = f 9 ∧ σ1 6 6 = f 10 - f 10 / nI 100 * nI 100 ∧ σ1 1 11 = f 11) (h9 : σ1 0 15 = if f (20 + 9 * s) + f (21 + 9 * s) ≤ nI 9 then nI 0 else nI 1) : rho σ1 = rhoF f s := by
  rw [show 21 + 9 * s = 20 + 9 * s + 1 by omega] at h9
  funext k
  by_cases hk : 11 ≤ k
  · obtain ⟨j, rfl⟩ := Nat.exists_eq_add_of_le hk
    rw [Nat.add_comm 11 j]
    rfl
  · have hk2 : k = 0 ∨ k = 1 ∨ k = 2 ∨ k = 3 ∨ k = 4 ∨ k = 5 ∨ k = 6 ∨ k = 7 ∨ k = 8 ∨ k = 9 ∨ k = 10 := by omega
    rcases hk2 with rfl | rfl | rfl | rfl | rfl | rfl | rfl | rfl | rfl | rfl | rfl
    · rfl
    · exact h1
    · exact h2
    · show σ1 6 2 = f (21 + 9 * s)
      rw [h3, show 20 + 9 * s + 1 = 21 + 9 * s by omega]
    · show σ1 6 3 = f (22 + 9 * s)
      rw [h4, show 20 + 9 * s + 2 = 22 + 9 * s by omega]
    · exact h5.1
    · exact h5.2.1
    · exact h5.2.2.1
    · show (if σ1 1 11 = nI 1 then nI 1 else nI 0) = if f 11 = nI 1 then nI 1 else nI 0
      rw [h5.2.2.2]
    · show σ1 0 15 = if f (20 + 9 * s) + f (21 + 9 * s) ≤ nI 9 then nI 0 else nI 1
      rw [h9, show 20 + 9 * s + 1 = 21 + 9 * s by omega]
    · show (if σ1 6 3 < nI 20 then nI 0 else nI 1) = if f (22 + 9 * s) < nI 20 then nI 0 else nI 1
      rw [h4, show 20 + 9 * s + 2 = 22 + 9 * s by omega]
theorem g_asks {s : Nat} (hs : s < 7) (hf : σ 1 = f) (hL : LTx f ls) (hq : ∀ σ', MW σ f σ' → σ' 0 16 = sFi ls f s → σ' 0 17 = sTo ls f s → Q (.inl none) sh_10 σ') : mD (d + 31) 131 [.ref 0, .int (nI s)] sh_10 σ Q := by
  obtain ⟨n, hn, hn2, hl⟩ := hL
  subst hf
  refine ⟨rfl, fun X hX => ?_⟩
  have end1 : ∀ (σ2 : mSg) (en : Int32), en = nI n → (∀ c, 1 ≤ c → c ≤ 5 → σ2 c = σ c) → σ2 0 0 = σ 0 0 → σ2 0 3 = σ 0 3 → σ2 0 6 = σ 0 6 → σ2 0 8 = σ 0 8 → σ2 0 12 = -(nI 1) → σ2 0 9 = nI 423 → σ2 0 16 = nI 1 → σ2 0 17 = nI 0 → b01 (σ2 0 15) → rho σ2 = rhoF (σ 1) s → X 159 [some (.ref 0), none, some (.int (σ 0 12)), none] [.int en, .ref 0] sh_10 σ2 0 0 := by
    intro σ2 en hen hc h0 h3 h6 h8 h12 h9 h16 h17 h15 hr
    refine hX _ _ _ _ _ _ _ ?_
    refine asks_read (σ := mput (mput (mput σ2 0 10 en) 0 11 (nI 0)) 0 13 (nI 0)) (ls := ls) (n := n) (t := nrm n (fun k => σ 1 (423 + k))) h16 h17 h15 h9 hen hn rfl h12 rfl (fun k hk => ?_) hl ?_
    · show σ2 1 (423 + k) = _
      rw [hc 1 (by omega) (by omega)]
      unfold nrm; rw [if_pos hk]
    · intro σ3 v ag e16 e17
      have er : rho (mput (mput (mput σ2 0 10 en) 0 11 (nI 0)) 0 13 (nI 0)) = rhoF (σ 1) s := (rho_congr rfl rfl (fun k => rfl)).trans hr
      rw [er] at e16 e17
      refine g_greater ?_
      refine hq _ ⟨?_, fun c h1 h2 => ?_, ?_, ?_, ?_, ?_, rfl, fun _ => ?_⟩ ?_ e17
      · funext k
        exact (ag 1 k (by omega)).trans (congrFun (hc 1 (by omega) (by omega)) k)
      · funext k
        rw [mput_ne (by omega), mput_ne (by omega), ag c k (by omega), mput_ne (by omega), mput_ne (by omega), mput_ne (by omega), hc c (by omega) h2]
      · exact (ag 0 0 (by omega)).trans h0
      · exact (ag 0 3 (by omega)).trans h3
      · exact (ag 0 6 (by omega)).trans h6
      · exact (ag 0 8 (by omega)).trans h8
      · show b01 (σ3 0 15)
        rw [ag 0 15 (by omega)]
        exact h15
      · show sMax (nI 0) (σ3 0 16) = _
        rw [e16]; rfl
  have fin : ∀ (σ1 : mSg) (far : Int32), (∀ c, 1 ≤ c → c ≤ 5 → σ1 c = σ c) → σ1 0 0 = σ 0 0 → σ1 0 3 = σ 0 3 → σ1 0 6 = σ 0 6 → σ1 0 8 = σ 0 8 → σ1 0 12 = σ 0 12 → σ1 0 16 = nI 1 → σ1 0 17 = nI 0 → b01 far → rho (mput σ1 0 15 far) = rhoF (σ 1) s → X 118 [some (.ref 0), none, none, none] [.int far, .ref 0] sh_10 σ1 0 0 := by
    intro σ1 far hc h0 h3 h6 h8 h12 h16 h17 hfar hr
    refine hX _ _ _ _ _ _ _ ?_
    refine ⟨b01_z hfar, ?_⟩
    refine ⟨vp_in_nI (n := 1) (by omega) (by omega), ?_⟩
    have e1 : σ1 1 1 = σ 1 1 := by rw [hc 1 (by omega) (by omega)]
    have e2 : σ1 1 2 = σ 1 2 := by rw [hc 1 (by omega) (by omega)]
    have nxt : ∀ en, en = nI n → X 159 [some (.ref 0), none, some (.int (σ1 0 12)), none] [.int en, .ref 0] sh_10 (mput (mput (mput σ1 0 15 far) 0 12 (-(nI 1))) 0 9 (nI 423)) 0 0 := by
      intro en hen
      rw [h12]
      refine end1 _ en hen (fun c a1 a2 => ?_) h0 h3 h6 h8 rfl rfl h16 h17 hfar ((rho_congr rfl rfl (fun k => rfl)).trans hr)
      rw [mput_ne (by omega), mput_ne (by omega), mput_ne (by omega)]
      exact hc c a1 a2
    refine ⟨fun h => ?_, fun h => ?_⟩
    · have h : nI 1 ≤ σ1 1 1 := h
      rw [e1] at h
      rcases hn2 with ⟨z1, z2⟩ | ⟨z1, z2⟩
      · exact absurd z1 (Int32.not_lt.mpr h)
      · refine hX _ _ _ _ _ _ _ ?_
        refine ⟨vp_in_nI (n := 2) (by omega) (by omega), ?_⟩
        exact nxt _ (e2.trans z2)
    · have h : ¬ nI 1 ≤ σ1 1 1 := h
      rw [e1] at h
      rcases hn2 with ⟨z1, z2⟩ | ⟨z1, z2⟩
      · exact nxt (nI 0) (by rw [z2])
      · exact absurd z1 h
  refine hX _ _ _ _ _ _ _ ?_
  refine ⟨vp_in_nI (n := 0) (by omega) (by omega), ?_⟩
  refine g_of (w := 0) hs (by omega) ?_
  refine ⟨vp_in_nI (n := 1) (by omega) (by omega), ?_⟩
  refine g_of (w := 1) hs (by omega) ?_
  refine ⟨vp_in_nI (n := 2) (by omega) (by omega), ?_⟩
  refine g_of (w := 2) hs (by omega) ?_
  refine ⟨vp_in_nI (n := 3) (by omega) (by omega), ?_⟩
  refine g_loadOf hs ?_
  refine ⟨vp_in_nI (n := 4) (by omega) (by omega), ?_⟩
  refine ⟨vp_in_nI (n := 9) (by omega) (by omega), ?_⟩
  refine ⟨vp_in_nI (n := 5) (by omega) (by omega), ?_⟩
  refine ⟨vp_in_nI (n := 10) (by omega) (by omega), ?_⟩
  refine ⟨by decide +kernel, ?_⟩
  refine ⟨vp_in_nI (n := 6) (by omega) (by omega), ?_⟩
  refine ⟨vp_in_nI (n := 1) (by omega) (by omega), ?_⟩
  refine ⟨vp_in_nI (n := 2) (by omega) (by omega), ?_⟩
  refine ⟨fun h => ?_, fun h => ?_⟩
  · have h : σ 1 (20 + 9 * s) + σ 1 (20 + 9 * s + 1) ≤ nI 9 := h
    rw [show 20 + 9 * s + 1 = 21 + 9 * s by omega] at h
    refine hX _ _ _ _ _ _ _ ?_
    refine fin _ (nI 0) (fun c a1 a2 => ?_) rfl rfl rfl rfl rfl rfl rfl b01_0 ?_
    · exact asks_off a1 a2
    · exact asks_rho rfl rfl rfl rfl ⟨rfl, rfl, rfl, rfl⟩ (if_pos h).symm
  · have h : ¬ σ 1 (20 + 9 * s) + σ 1 (20 + 9 * s + 1) ≤ nI 9 := h
    rw [show 20 + 9 * s + 1 = 21 + 9 * s by omega] at h
    refine fin _ (nI 1) (fun c a1 a2 => ?_) rfl rfl rfl rfl rfl rfl rfl b01_1 ?_
    · exact asks_off a1 a2
    · exact asks_rho rfl rfl rfl rfl ⟨rfl, rfl, rfl, rfl⟩ (if_neg h).symm
end ASK
section ASK2
variable {d : Nat} {σ0 σ : mSg} {f : Nat → Int32} {Q : mPst} {ls : List lLn}
theorem g_fillsOf {s : Nat} {v : Int32} (hv : v = nI s) (hs : s < 7) (hW : MW σ0 f σ) (hL : LTx f ls) (hq : ∀ σ', MW σ0 f σ' → Q (.inl (some (.int (sFi ls f s)))) sh_10 σ') : mD (d + 32) 132 [.ref 0, .int v] sh_10 σ Q := by
  subst hv
  refine ⟨rfl, fun X hX => ?_⟩
  refine hX _ _ _ _ _ _ _ ?_
  refine g_asks hs hW.1 hL ?_
  intro σ' h e1 e2
  exact qi e1.symm (hq σ' (hW.trans h))
theorem g_tollOf {s : Nat} {v : Int32} (hv : v = nI s) (hs : s < 7) (hW : MW σ0 f σ) (hL : LTx f ls) (hq : ∀ σ', MW σ0 f σ' → Q (.inl (some (.int (sTo ls f s)))) sh_10 σ') : mD (d + 32) 133 [.ref 0, .int v] sh_10 σ Q := by
  subst hv
  refine ⟨rfl, fun X hX => ?_⟩
  refine hX _ _ _ _ _ _ _ ?_
  refine g_asks hs hW.1 hL ?_
  intro σ' h e1 e2
  exact qi e2.symm (hq σ' (hW.trans h))
end ASK2
