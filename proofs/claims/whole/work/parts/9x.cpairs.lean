/-! THE CLASS: contracts two by two -/
section CPA
variable {d : Nat} {σ : mSg} {m : Nat → Int32} {Q : mPst} {n nc ns nd : Nat}
def coM (m : Nat → Int32) (k o : Nat) : Prop := dLo m k ≤ dHi m o ∧ dLo m o ≤ dHi m k
theorem c_isPair {k o : Nat} (hk : k < nd) (ho : o < nd) (hB : BD m n nc ns nd) (hR : RS σ m) (q1 : coM m k o ∧ sOpen m k ∧ sOpen m o → Q (.inl (some (.int (nI 1)))) sh_7 σ) (q0 : ¬ (coM m k o ∧ sOpen m k ∧ sOpen m o) → Q (.inl (some (.int (nI 0)))) sh_7 σ) : mD (d + 3) 238 [.ref 0, .int (nI k), .int (nI o)] sh_7 σ Q := by
  have hn := hB.2.2.2.1.2
  obtain ⟨k1, k2, k3, k4, k5⟩ := hB.dl hk
  obtain ⟨o1, o2, o3, o4, o5⟩ := hB.dl ho
  refine ⟨rfl, fun X hX => ?_⟩
  have no : ¬ (coM m k o ∧ sOpen m k ∧ sOpen m o) → X 56 [none, none, none, none] [] sh_7 σ 0 0 := by
    intro h
    refine hX _ _ _ _ _ _ _ ?_
    refine hX _ _ _ _ _ _ _ ?_
    exact ⟨Or.inl rfl, q0 h⟩
  have p31 : ∀ x, tv x (coM m k o) → X 31 [some (.ref 0), some (.int (nI k)), some (.int (nI o)), none] [.int x] sh_7 σ 0 0 := by
    intro x hx
    refine hX _ _ _ _ _ _ _ ?_
    rcases hx with ⟨rfl, hx⟩ | ⟨rfl, hx⟩
    · refine ⟨fun z => absurd z (by decide +kernel), fun _ => ?_⟩
      refine c_isOpen (by omega) hR (fun h1 => ?_) (fun h1 => ?_)
      · refine ⟨fun z => absurd z (by decide +kernel), fun _ => ?_⟩
        refine c_isOpen (by omega) hR (fun h2 => ?_) (fun h2 => ?_)
        · refine ⟨fun z => absurd z (by decide +kernel), fun _ => ?_⟩
          refine hX _ _ _ _ _ _ _ ?_
          exact ⟨Or.inr rfl, q1 ⟨hx, h1, h2⟩⟩
        · exact ⟨fun _ => no (fun z => h2 z.2.2), fun z => absurd rfl z⟩
      · exact ⟨fun _ => no (fun z => h1 z.2.1), fun z => absurd rfl z⟩
    · exact ⟨fun _ => no (fun z => hx z.1), fun z => absurd rfl z⟩
  have p30 : ¬ coM m k o → X 30 [some (.ref 0), some (.int (nI k)), some (.int (nI o)), none] [] sh_7 σ 0 0 := by
    intro h
    refine hX _ _ _ _ _ _ _ ?_
    exact p31 _ (Or.inr ⟨rfl, h⟩)
  refine hX _ _ _ _ _ _ _ ?_
  refine c_lowOf (by omega) hR ?_
  refine c_highOf (by omega) hR ?_
  refine b_gt k1 o2 (by omega) (by omega) (fun h => p30 (fun z => by have := z.1; omega)) (fun h1 => ?_)
  refine c_lowOf (by omega) hR ?_
  refine c_highOf (by omega) hR ?_
  refine b_gt o1 k2 (by omega) (by omega) (fun h => p30 (fun z => by have := z.2; omega)) (fun h2 => ?_)
  exact p31 _ (Or.inl ⟨rfl, h1, h2⟩)
def PST (σ : mSg) (st : Option Nat × (Nat → Int32)) : Prop := σ 0 4 = oM (-(nI 1)) st.1 ∧ ∀ i, i < 6 → σ 2 i = st.2 i
def PFr (w m : Nat → Int32) (nd c S : Nat) : Prop := (∀ i, c ≤ i → i < nd → (S.testBit i = true ↔ (w i = -(nI 1) ∧ sOpen m i))) ∧ ∀ i, i < c → S.testBit i = false
theorem RQ.cg3 {W : mSg} (h : RQ σ m) (hk : ∀ c, 3 ≤ c → W c = σ c) : RQ W m := h.cg hk
theorem upd_back {w : Nat → Int32} {c o : Nat} {x y z : Int32} (hc : w c = z) (ho : w o = z) : upd (upd (upd (upd w c x) o y) c z) o z = w := by
  funext i
  by_cases e1 : i = o
  · rw [e1, upd_at, ho]
  · rw [upd_off e1]
    by_cases e2 : i = c
    · rw [e2, upd_at, hc]
    · rw [upd_off e2, upd_off e1, upd_off e2]
set_option maxHeartbeats 4000000 in
theorem c_putFrom (hB : BD m n nc ns nd) : ∀ (j D S py : Nat) (σ : mSg) (st : Option Nat × (Nat → Int32)) (x y : Int32) (Q : mPst), j ≤ nd → j + 3 ≤ D → S < 2 ^ nd → x = nI (nd - j) → y = nI py → py + 18 * j ≤ 108 → RQ σ m → PFr (σ 1) m nd (nd - j) S → PST σ st → (∀ b, st.1 = some b → b ≤ 108) → (∀ σ', σ' 1 = σ 1 → (∀ c, 3 ≤ c → σ' c = σ c) → PST σ' (upS (py + pqV nd (boN m nd) j S) (pqR nd (boN m nd) j S (σ 1)) st) → Q (.inl none) sh_0_7 σ') → mD D 237 [.ref 0, .ref 3, .int x, .int y] sh_0_7 σ Q := by
  have hn := hB.2.2.2.1.2
  have h64 : 2 ^ nd ≤ 64 := Nat.pow_le_pow_right (n := 2) (by omega) hn
  intro j
  induction j with
  | zero =>
    intro D S py σ st x y Q hj hD hS hx hy hpy hR hF hP hst hq
    obtain ⟨D, rfl⟩ : ∃ D', D = D' + 1 := ⟨D - 1, by omega⟩
    have e10 : σ 3 10 = nI nd := (hR.g rf0.2.2.2.1).trans hB.2.2.2.1.1
    refine ⟨rfl, fun X hX => ?_⟩
    have yes : impB st.1 py = true → ∀ W, W = σ → X 36 [none, none, none, none, none] [] sh_0_7 (fun b2 => if b2 = 2 then va_cpy ((mput W 0 4 y) 1) ((mput W 0 4 y) 2) 0 0 6 else (mput W 0 4 y) b2) 0 0 := by
      intro h W hW
      subst hW
      refine hX _ _ _ _ _ _ _ ?_
      refine hq _ rfl (fun c hc => ?_) ?_
      · show (if c = 2 then _ else (mput W 0 4 y) c) = W c
        rw [if_neg (by omega), mput_ne (by omega)]
      · have e : upS (py + pqV nd (boN m nd) 0 S) (pqR nd (boN m nd) 0 S (W 1)) st = (some py, W 1) := by
          unfold upS
          rw [show py + pqV nd (boN m nd) 0 S = py from rfl, if_pos h]
          rfl
        rw [e]
        refine ⟨hy, fun i hi => ?_⟩
        show va_cpy (W 1) (W 2) 0 0 6 i = W 1 i
        exact cpy_at hi
    have no : ¬ impB st.1 py = true → X 36 [none, none, none, none, none] [] sh_0_7 σ 0 0 := by
      intro h
      refine hX _ _ _ _ _ _ _ ?_
      refine hq _ rfl (fun c hc => rfl) ?_
      have e : upS (py + pqV nd (boN m nd) 0 S) (pqR nd (boN m nd) 0 S (σ 1)) st = st := by
        unfold upS
        rw [show py + pqV nd (boN m nd) 0 S = py from rfl, if_neg h]
      rw [e]
      exact hP
    refine hX _ _ _ _ _ _ _ ?_
    refine b_lt hx e10 (by omega) (by omega) (fun h => by omega) (fun _ => ?_)
    have eb := hP.1
    cases hs : st.1 with
    | none =>
      rw [hs] at eb yes
      refine ⟨fun z => absurd (show y ≤ σ 0 4 from z) (by rw [hy, eb]; intro z; exact nI_pos (n := py) (by omega) (Int32.lt_of_le_of_lt z (by decide +kernel))), fun _ => ?_⟩
      refine ⟨by decide +kernel, ?_⟩
      exact yes rfl σ rfl
    | some b =>
      rw [hs] at eb yes no
      have hb := hst b hs
      refine b_le hy eb (by omega) (by omega) (fun h => no ?_) (fun h => ?_)
      · unfold impB
        rw [decide_eq_true_iff]
        omega
      · refine ⟨by decide +kernel, ?_⟩
        exact yes (decide_eq_true h) σ rfl
  | succ j ih =>
    intro D S py σ st x y Q hj hD hS hx hy hpy hR hF hP hst hq
    obtain ⟨D, rfl⟩ : ∃ D', D = D' + 4 := ⟨D - 4, by omega⟩
    have e10 : σ 3 10 = nI nd := (hR.g rf0.2.2.2.1).trans hB.2.2.2.1.1
    generalize hcc : nd - (j + 1) = c at hx hF
    have hjc : nd - j = c + 1 := by omega
    have hcn : c < nd := by omega
    have ex1 : x + nI 1 = nI (nd - j) := by rw [hx, nI_add, hjc]
    have hVle := pqV_le (nd := nd) (boN_le hB)
    have bV : ∀ S, py + pqV nd (boN m nd) j S ≤ 108 := fun S => by have := hVle j S; omega
    refine ⟨rfl, fun X hX => ?_⟩
    refine hX _ _ _ _ _ _ _ ?_
    refine b_lt hx e10 (by omega) (by omega) (fun _ => ?_) (fun h => by omega)
    refine hX _ _ _ _ _ _ _ ?_
    by_cases hc : S.testBit c = true
    ·
      have o1 := sb_out S (by omega) c (by omega) hc
      have l1 := sb_lt S (by omega) c (by omega) hc
      obtain ⟨wc, oc⟩ := (hF.1 c (Nat.le_refl _) hcn).mp hc
      have eV : pqV nd (boN m nd) (j + 1) S = (foP (pqV nd (boN m nd) j (S - 2 ^ c)) (pvl (boN m nd) (pqV nd (boN m nd) j) c S) nd).1 := by
        rw [pqV, hcc, if_pos hc]
      have eR : pqR nd (boN m nd) (j + 1) S (σ 1) = (match (foP (pqV nd (boN m nd) j (S - 2 ^ c)) (pvl (boN m nd) (pqV nd (boN m nd) j) c S) nd).2 with | none => pqR nd (boN m nd) j (S - 2 ^ c) (σ 1) | some o => pqR nd (boN m nd) j (S - 2 ^ c - 2 ^ o) (upd (upd (σ 1) c (nI o)) o (nI c))) := by
        rw [pqR, hcc, if_pos hc]
        rfl
      rw [eV, eR] at hq
      generalize hval : pvl (boN m nd) (pqV nd (boN m nd) j) c S = val at hq
      generalize hv0 : pqV nd (boN m nd) j (S - 2 ^ c) = v0 at hq
      have hlo : ∀ i, i < c + 1 → val i = none := by
        intro i hi
        rw [← hval]
        unfold pvl
        rw [if_neg (by omega)]
      have hvle : ∀ k, (foP v0 val k).1 ≤ 18 * (j + 1) := by
        intro k
        refine foP_le ?_ (fun i v h => ?_) k
        · have := hVle j (S - 2 ^ c); omega
        · rw [← hval] at h
          obtain ⟨-, -, p, h1, h2⟩ := pvl_some h
          have a := boN_le hB _ _ _ h1
          have b := hVle j (S - 2 ^ c - 2 ^ i)
          omega
      have loop : ∀ r o W, nd - o = r → c + 1 ≤ o → o ≤ nd → W 1 = σ 1 → (∀ c, 3 ≤ c → W c = σ c) → PST W (upS (py + (foP v0 val o).1) (match (foP v0 val o).2 with | none => pqR nd (boN m nd) j (S - 2 ^ c) (σ 1) | some o => pqR nd (boN m nd) j (S - 2 ^ c - 2 ^ o) (upd (upd (σ 1) c (nI o)) o (nI c))) st) → X 70 [some (.ref 0), some (.ref 3), some (.int x), some (.int y), some (.int (nI o))] [] sh_0_7 W 0 0 := by
        intro r
        induction r with
        | zero =>
          intro o W hr ho1 ho2 w1 w2 w3
          have eo : o = nd := by omega
          subst eo
          have eW : W 3 10 = nI o := by rw [w2 3 (by omega)]; exact e10
          refine hX _ _ _ _ _ _ _ ?_
          refine b_ge rfl eW (by omega) (by omega) (fun _ => ?_) (fun h => by omega)
          refine hX _ _ _ _ _ _ _ ?_
          exact hq W w1 w2 w3
        | succ r ih2 =>
          intro o W hr ho1 ho2 w1 w2 w3
          have hon : o < nd := by omega
          have eW : W 3 10 = nI nd := by rw [w2 3 (by omega)]; exact e10
          have hRW : RQ W m := hR.cg3 w2
          have p153 : ∀ W, W 1 = σ 1 → (∀ c, 3 ≤ c → W c = σ c) → PST W (upS (py + (foP v0 val (o + 1)).1) (match (foP v0 val (o + 1)).2 with | none => pqR nd (boN m nd) j (S - 2 ^ c) (σ 1) | some o => pqR nd (boN m nd) j (S - 2 ^ c - 2 ^ o) (upd (upd (σ 1) c (nI o)) o (nI c))) st) → X 153 [some (.ref 0), some (.ref 3), some (.int x), some (.int y), some (.int (nI o))] [] sh_0_7 W 0 0 := by
            intro W w1 w2 w3
            refine hX _ _ _ _ _ _ _ ?_
            have h9 := ih2 (o + 1) W (by omega) (by omega) (by omega) w1 w2 w3
            rw [← nI_1 o] at h9
            exact h9
          have keep : val o = none → ∀ W', W' = W → X 153 [some (.ref 0), some (.ref 3), some (.int x), some (.int y), some (.int (nI o))] [] sh_0_7 W' 0 0 := by
            intro hno W' hW'
            subst hW'
            have ef : foP v0 val (o + 1) = foP v0 val o := by rw [foP_s, hno]
            exact p153 W' w1 w2 (by rw [ef]; exact w3)
          have eo1 : W 1 (nI o).toNatClampNeg = σ 1 o := by rw [nI_clamp (by omega), w1]
          refine hX _ _ _ _ _ _ _ ?_
          refine b_ge rfl eW (by omega) (by omega) (fun h => by omega) (fun _ => ?_)
          refine ⟨vp_in_nI (by omega) (by omega), ?_⟩
          refine ⟨fun h => keep ?_ _ rfl, fun h => ?_⟩
          · have h : ¬ W 1 (nI o).toNatClampNeg = -(nI 1) := h
            rw [eo1] at h
            rw [← hval]
            unfold pvl
            rw [if_neg]
            exact fun z => h ((hF.1 o (by omega) hon).mp z.2).1
          · have h : W 1 (nI o).toNatClampNeg = -(nI 1) := h
            rw [eo1] at h
            subst hx
            refine c_isPair hcn hon hB (show RS (fun j => W (mgl [(3, 9)] j)) m from hRW) (fun hp => ?_) (fun hp => ?_)
            · have hbo : S.testBit o = true := (hF.1 o (by omega) hon).mpr ⟨h, hp.2.2⟩
              have bo : (S - 2 ^ c).testBit o = true := by
                rw [o1 o (by omega), hbo, show (o == c) = false from beq_eq_false_iff_ne.mpr (by omega)]; rfl
              have o2 := sb_out _ (show S - 2 ^ c < 128 by omega) o (by omega) bo
              have l2 := sb_lt _ (show S - 2 ^ c < 128 by omega) o (by omega) bo
              have hpr : boN m nd c o = some (paN m c + paN m o) := by
                unfold boN
                rw [if_pos ⟨hcn, hon, hp.1⟩]
              have hvo : val o = some (paN m c + paN m o + pqV nd (boN m nd) j (S - 2 ^ c - 2 ^ o)) := by
                rw [← hval]
                unfold pvl
                rw [if_pos ⟨by omega, hbo⟩, hpr]
              obtain ⟨pc1, pc2⟩ := paN_ok hB hcn
              obtain ⟨po1, po2⟩ := paN_ok hB hon
              refine ⟨fun z => absurd z (by decide +kernel), fun _ => ?_⟩
              refine ⟨vp_in_nI (by omega) (by omega), ?_⟩
              refine ⟨vp_in_nI (by omega) (by omega), ?_⟩
              have rest : ∀ W2, W2 = mput (mput W 1 (nI c).toNatClampNeg (nI o)) 1 (nI o).toNatClampNeg (nI c) → W2 1 = upd (upd (σ 1) c (nI o)) o (nI c) ∧ (∀ c, 3 ≤ c → W2 c = σ c) ∧ PST W2 (upS (py + (foP v0 val o).1) (match (foP v0 val o).2 with | none => pqR nd (boN m nd) j (S - 2 ^ c) (σ 1) | some o => pqR nd (boN m nd) j (S - 2 ^ c - 2 ^ o) (upd (upd (σ 1) c (nI o)) o (nI c))) st) := by
                intro W2 hW2
                rw [hW2, nI_clamp (by omega), nI_clamp (by omega)]
                refine ⟨?_, fun c hc => ?_, ?_⟩
                · rw [mput_eq, mput_eq, w1]
                · rw [mput_ne (by omega), mput_ne (by omega)]
                  exact w2 c hc
                · exact w3
              have r0 := fun W' (h : W' = W) => rest (mput (mput W' 1 (nI c).toNatClampNeg (nI o)) 1 (nI o).toNatClampNeg (nI c)) (by rw [h])
              have r1 := r0 _ (q3 rfl)
              refine c_paysOf (by omega) (show RS (fun j => (mput (mput (mback [(3, 9)] W (fun j => W (mgl [(3, 9)] j))) 1 (nI c).toNatClampNeg (nI o)) 1 (nI o).toNatClampNeg (nI c)) (mgl [(3, 9)] j)) m from hR.cg3 r1.2.1) ?_
              refine c_paysOf (by omega) (show RS (fun j => (mback [(3, 9)] (mput (mput (mback [(3, 9)] W (fun j => W (mgl [(3, 9)] j))) 1 (nI c).toNatClampNeg (nI o)) 1 (nI o).toNatClampNeg (nI c)) (fun j => (mput (mput (mback [(3, 9)] W (fun j => W (mgl [(3, 9)] j))) 1 (nI c).toNatClampNeg (nI o)) 1 (nI o).toNatClampNeg (nI c)) (mgl [(3, 9)] j))) (mgl [(3, 9)] j)) m by rw [q3 rfl]; exact hR.cg3 r1.2.1) ?_
              have cont : ∀ W2, W2 1 = upd (upd (σ 1) c (nI o)) o (nI c) ∧ (∀ c, 3 ≤ c → W2 c = σ c) ∧ PST W2 (upS (py + (foP v0 val o).1) (match (foP v0 val o).2 with | none => pqR nd (boN m nd) j (S - 2 ^ c) (σ 1) | some o => pqR nd (boN m nd) j (S - 2 ^ c - 2 ^ o) (upd (upd (σ 1) c (nI o)) o (nI c))) st) → ∀ Q', (∀ σ', σ' 1 = W2 1 → (∀ c, 3 ≤ c → σ' c = W2 c) → PST σ' (upS (py + (paN m c + paN m o) + pqV nd (boN m nd) j (S - 2 ^ c - 2 ^ o)) (pqR nd (boN m nd) j (S - 2 ^ c - 2 ^ o) (upd (upd (σ 1) c (nI o)) o (nI c))) (upS (py + (foP v0 val o).1) (match (foP v0 val o).2 with | none => pqR nd (boN m nd) j (S - 2 ^ c) (σ 1) | some o => pqR nd (boN m nd) j (S - 2 ^ c - 2 ^ o) (upd (upd (σ 1) c (nI o)) o (nI c))) st)) → Q' (.inl none) sh_0_7 σ') → mD (D + 3) 237 [.ref 0, .ref 3, .int (nI c + nI 1), .int (y + m (93 + 5 * c + 3) + m (93 + 5 * o + 3))] sh_0_7 W2 Q' := by
                intro W2 hw Q' hq'
                rw [← hw.1] at hq'
                refine ih (D + 3) (S - 2 ^ c - 2 ^ o) (py + (paN m c + paN m o)) W2 _ _ _ Q' (by omega) (by omega) (by omega) ex1 (by rw [hy, pc1, po1, nI_add, nI_add, Nat.add_assoc]) (by omega) (hR.cg3 hw.2.1) ⟨fun i hi1 hi2 => ?_, fun i hi => ?_⟩ hw.2.2 (upS_le (by have := hvle o; omega) hst) hq'
                · rw [o2 i (by omega), o1 i (by omega), hw.1]
                  by_cases eo : i = o
                  · rw [eo, upd_at]
                    simp only [beq_self_eq_true, Bool.not_true, Bool.and_false, Bool.false_eq_true, false_iff]
                    exact fun z => oN_ne (k := c) (by omega) z.1
                  · rw [upd_off eo, upd_off (by omega), show (i == o) = false from beq_eq_false_iff_ne.mpr eo, show (i == c) = false from beq_eq_false_iff_ne.mpr (by omega)]
                    simp only [Bool.not_false, Bool.and_true]
                    exact hF.1 i (by omega) hi2
                · rw [o2 i (by omega), o1 i (by omega)]
                  by_cases ec : i = c
                  · rw [ec]; simp
                  · rw [hF.2 i (by omega)]; simp
              refine cont _ ?_ _ (fun σ3 s1 s2 s3 => ?_)
              · have := rest (mput (mput W 1 (nI c).toNatClampNeg (nI o)) 1 (nI o).toNatClampNeg (nI c)) rfl
                have e9 := q3 (σ := mput (mput W 1 (nI c).toNatClampNeg (nI o)) 1 (nI o).toNatClampNeg (nI c)) (q3 (σ := mput (mput W 1 (nI c).toNatClampNeg (nI o)) 1 (nI o).toNatClampNeg (nI c)) (W := mput (mput (mback [(3, 9)] W (fun j => W (mgl [(3, 9)] j))) 1 (nI c).toNatClampNeg (nI o)) 1 (nI o).toNatClampNeg (nI c)) (by rw [q3 rfl]))
                rw [← e9] at this
                exact this
              · refine ⟨vp_in_nI (by omega) (by omega), ?_⟩
                refine ⟨vp_in_nI (by omega) (by omega), ?_⟩
                have e9 := q3 (σ := mput (mput W 1 (nI c).toNatClampNeg (nI o)) 1 (nI o).toNatClampNeg (nI c)) (q3 (σ := mput (mput W 1 (nI c).toNatClampNeg (nI o)) 1 (nI o).toNatClampNeg (nI c)) (W := mput (mput (mback [(3, 9)] W (fun j => W (mgl [(3, 9)] j))) 1 (nI c).toNatClampNeg (nI o)) 1 (nI o).toNatClampNeg (nI c)) (by rw [q3 rfl]))
                have r9 := rest (mput (mput W 1 (nI c).toNatClampNeg (nI o)) 1 (nI o).toNatClampNeg (nI c)) rfl
                have s1' : σ3 1 = upd (upd (σ 1) c (nI o)) o (nI c) := by
                  refine s1.trans ?_
                  have e8 := congrFun e9 1
                  exact e8.trans r9.1
                have s2' : ∀ c, 3 ≤ c → σ3 c = σ c := by
                  intro c hc
                  refine (s2 c hc).trans ?_
                  have e8 := congrFun e9 c
                  exact e8.trans (r9.2.1 c hc)
                have ef : foP v0 val (o + 1) = if (foP v0 val o).1 < paN m c + paN m o + pqV nd (boN m nd) j (S - 2 ^ c - 2 ^ o) then (paN m c + paN m o + pqV nd (boN m nd) j (S - 2 ^ c - 2 ^ o), some o) else foP v0 val o := by
                  rw [foP_s, hvo]
                rw [upS_2] at s3
                have fin : ∀ a, a = σ3 → X 153 [some (.ref 0), some (.ref 3), some (.int (nI c)), some (.int y), some (.int (nI o))] [] sh_0_7 (mput (mput a 1 (nI c).toNatClampNeg (-(nI 1))) 1 (nI o).toNatClampNeg (-(nI 1))) 0 0 := by
                  intro a ha
                  subst ha
                  refine p153 _ ?_ (fun c hc => ?_) ?_
                  · rw [mput_eq, mput_eq, nI_clamp (by omega), nI_clamp (by omega), s1']
                    exact upd_back wc h
                  · rw [mput_ne (by omega), mput_ne (by omega)]
                    exact s2' c hc
                  · rw [ef]
                    by_cases hlt : (foP v0 val o).1 < paN m c + paN m o + pqV nd (boN m nd) j (S - 2 ^ c - 2 ^ o)
                    · rw [if_pos (by omega), Nat.add_assoc] at s3
                      rw [if_pos hlt]
                      exact s3
                    · rw [if_neg (by omega)] at s3
                      rw [if_neg hlt]
                      exact s3
                exact fin _ rfl
            · refine ⟨fun _ => keep ?_ _ (q3 rfl), fun z => absurd rfl z⟩
              rw [← hval]
              unfold pvl
              split
              · rename_i hcz
                have ho := (hF.1 o (by omega) hon).mp hcz.2
                have : boN m nd c o = none := by
                  unfold boN
                  rw [if_neg]
                  exact fun z => hp ⟨z.2.2, oc, ho.2⟩
                rw [this]
              · rfl
      refine ih (D + 3) (S - 2 ^ c) py σ st _ _ _ (by omega) (by omega) (by omega) ex1 hy (by omega) hR ⟨fun i hi1 hi2 => ?_, fun i hi => ?_⟩ hP hst (fun σ1 s1 s2 s3 => ?_)
      · rw [o1 i (by omega), show (i == c) = false from beq_eq_false_iff_ne.mpr (by omega)]
        simp only [Bool.not_false, Bool.and_true]
        exact hF.1 i (by omega) hi2
      · rw [o1 i (by omega)]
        by_cases ec : i = c
        · rw [ec]; simp
        · rw [hF.2 i (by omega)]; simp
      · have ec1 : σ1 1 x.toNatClampNeg = -(nI 1) := by rw [clN hx (by omega), s1]; exact wc
        refine ⟨vin hx (by omega) (by omega), ?_⟩
        refine ⟨fun z => absurd ec1 z, fun _ => ?_⟩
        subst hx
        refine c_isOpen (by omega) (show RS (fun j => σ1 (mgl [(3, 9)] j)) m from hR.cg3 s2) (fun _ => ?_) (fun z => absurd oc z)
        refine ⟨fun _ => ?_, fun z => absurd z (by decide +kernel)⟩
        refine hX _ _ _ _ _ _ _ ?_
        have go : ∀ W x2, W = σ1 → x2 = nI (c + 1) → X 70 [some (.ref 0), some (.ref 3), some (.int (nI c)), some (.int y), some (.int x2)] [] sh_0_7 W 0 0 := by
          intro W x2 hW hx2
          subst hW; subst hx2
          refine loop _ (c + 1) W rfl (Nat.le_refl _) (by omega) s1 s2 ?_
          rw [foP_lo (c + 1) hlo, ← hv0]
          exact s3
        exact go _ _ (q3 rfl) (nI_1 c)
    ·
      have eV : pqV nd (boN m nd) (j + 1) S = pqV nd (boN m nd) j S := by rw [pqV, hcc, if_neg hc]
      have eR : pqR nd (boN m nd) (j + 1) S (σ 1) = pqR nd (boN m nd) j S (σ 1) := by rw [pqR, hcc, if_neg hc]
      rw [eV, eR] at hq
      have hcb : S.testBit c = false := by
        cases e : S.testBit c with
        | true => exact absurd e hc
        | false => rfl
      refine ih (D + 3) S py σ st _ _ _ (by omega) (by omega) hS ex1 hy (by omega) hR ⟨fun i hi1 hi2 => hF.1 i (by omega) hi2, fun i hi => ?_⟩ hP hst (fun σ1 s1 s2 s3 => ?_)
      · by_cases ec : i = c
        · rw [ec]; exact hcb
        · exact hF.2 i (by omega)
      · have ec1 : σ1 1 x.toNatClampNeg = σ 1 c := by rw [clN hx (by omega), s1]
        have fin : ∀ W, W = σ1 → X 64 [none, none, none, none, none] [] sh_0_7 W 0 0 := by
          intro W hW
          subst hW
          refine hX _ _ _ _ _ _ _ ?_
          exact hq W s1 s2 s3
        refine ⟨vin hx (by omega) (by omega), ?_⟩
        refine ⟨fun _ => fin _ rfl, fun hw => ?_⟩
        have hw2 : σ 1 c = -(nI 1) := ec1.symm.trans hw
        clear hw
        subst hx
        refine c_isOpen (by omega) (show RS (fun j => σ1 (mgl [(3, 9)] j)) m from hR.cg3 s2) (fun ho => absurd ((hF.1 c (Nat.le_refl _) hcn).mpr ⟨hw2, ho⟩) hc) (fun _ => ?_)
        refine ⟨fun z => absurd rfl z, fun _ => ?_⟩
        exact fin _ (q3 rfl)
end CPA
section CPB
variable {d : Nat} {σ : mSg} {m : Nat → Int32} {Q : mPst} {n nc ns nd : Nat}
theorem opN_bit {i : Nat} (hi : i < nd) : (opN m nd).testBit i = true ↔ sOpen m i := by
  unfold opN
  rw [sN_bit nd, decide_eq_true hi, Bool.true_and]
  exact decide_eq_true_iff
theorem c_putTwoByTwo (hB : BD m n nc ns nd) (hR : RQ σ m) (hq : ∀ σ', (∀ c, 3 ≤ c → σ' c = σ c) → σ' 0 4 = sPa m nd none → (∀ k, k < 6 → σ' 2 k = sPa m nd (some k)) → Q (.inl none) sh_0_7 σ') : mD (d + 10) 236 [.ref 0, .ref 3] sh_0_7 σ Q := by
  have hn := hB.2.2.2.1.2
  refine ⟨rfl, fun X hX => ?_⟩
  have loop : ∀ r k W, 6 - k = r → k ≤ 6 → (∀ c, 3 ≤ c → W c = σ c) → W 0 4 = -(nI 1) → (∀ i, i < k → W 1 i = -(nI 1)) → X 7 [some (.ref 0), some (.ref 3), some (.int (nI k))] [] sh_0_7 W 0 0 := by
    intro r
    induction r with
    | zero =>
      intro k W hr hk w1 w2 w3
      refine hX _ _ _ _ _ _ _ ?_
      refine b_ge rfl (b := 6) rfl (by omega) (by omega) (fun _ => ?_) (fun h => by omega)
      refine hX _ _ _ _ _ _ _ ?_
      refine c_putFrom hB nd (d + 9) (opN m nd) 0 W (none, W 2) _ _ _ (Nat.le_refl _) (by omega) (sN_lt nd) (by rw [Nat.sub_self]; rfl) rfl (by omega) (hR.cg3 w1) ⟨fun i _ hi => ?_, fun i hi => absurd hi (by omega)⟩ ⟨w2, fun _ _ => rfl⟩ (fun b hb => by cases hb) (fun σ' s1 s2 s3 => ?_)
      · rw [opN_bit hi]
        exact ⟨fun h => ⟨w3 i (by omega), h⟩, fun h => h.2⟩
      · have e : upS (0 + pqV nd (boN m nd) nd (opN m nd)) (pqR nd (boN m nd) nd (opN m nd) (W 1)) (none, W 2) = (some (pqV nd (boN m nd) nd (opN m nd)), pqR nd (boN m nd) nd (opN m nd) (W 1)) := by
          rw [Nat.zero_add]
          rfl
        rw [e] at s3
        refine hq σ' (fun c hc => (s2 c hc).trans (w1 c hc)) s3.1 (fun k hk => ?_)
        rw [s3.2 k hk]
        exact pqR_cg hn nd (opN m nd) (Nat.le_refl _) (sN_lt nd) (fun i hi => w3 i (by omega)) k hk
    | succ r ih =>
      intro k W hr hk w1 w2 w3
      refine hX _ _ _ _ _ _ _ ?_
      refine b_ge rfl (b := 6) rfl (by omega) (by omega) (fun h => by omega) (fun _ => ?_)
      refine ⟨vp_in_nI (by omega) (by omega), ?_⟩
      refine ⟨vp_in_nI (by omega) (by omega), ?_⟩
      have h9 := ih (k + 1) (mput (mput W 1 (nI k).toNatClampNeg (-(nI 1))) 2 (nI k).toNatClampNeg (-(nI 1))) (by omega) (by omega) (fun c hc => by rw [mput_ne (by omega), mput_ne (by omega)]; exact w1 c hc) (by rw [mput_ne (by omega), mput_ne (by omega)]; exact w2) (fun i hi => by
        rw [mput_ne (by omega), mput_eq, nI_clamp (by omega)]
        by_cases e : i = k
        · rw [e, upd_at]
        · rw [upd_off e]; exact w3 i (by omega))
      rw [← nI_1 k] at h9
      exact h9
  refine hX _ _ _ _ _ _ _ ?_
  exact loop _ 0 _ rfl (by omega) (fun c hc => mput_ne (by omega)) rfl (fun i hi => absurd hi (by omega))
set_option maxRecDepth 100000 in
theorem c_ypairs {p : Int32} (hB : BD m n nc ns nd) (hR : RYs σ m) (q1 : ∀ s : Option Nat, (∀ k, s = some k → k < nd) → p = oN s → ∀ σ', DX σ σ' → Q (.inl (some (.int (sPa m nd s)))) sh_9 σ') (q0 : ¬ sOk nd p → Q (.inr 2) sh_9 σ) : mD (d + 11) 39 [.ref 0, .int p] sh_9 σ Q := by
  have hn := hB.2.2.2.1.2
  refine ⟨rfl, fun X hX => ?_⟩
  have last : ∀ s : Option Nat, (∀ k, s = some k → k < nd) → p = oN s → ∀ c q, (c = 0 ∧ q = 0 ∨ c = 1 ∧ q = 6) → X 10 [some (.ref 0), some (.int p)] [] sh_9 σ c q := by
    intro s h1 e1 c q hc
    have hq := q1 s h1 e1
    subst e1
    rcases hc with ⟨rfl, rfl⟩ | ⟨rfl, rfl⟩
    · refine hX _ _ _ _ _ _ _ ?_
      refine c_putTwoByTwo hB hR.rq (fun σ2 h2 h3 h4 => ?_)
      have h5 := DX.of (σ := σ) (σ2 := σ2) (fun c hc => h2 c hc)
      cases s with
      | none =>
        refine ⟨fun z => absurd rfl z, fun _ => ?_⟩
        refine hX _ _ _ _ _ _ _ ?_
        exact qi h3.symm (hq _ h5)
      | some k =>
        have hk := h1 k rfl
        refine ⟨fun _ => ?_, fun z => absurd z (oN_ne (by omega))⟩
        refine hX _ _ _ _ _ _ _ ?_
        refine ⟨vp_in_nI (n := k) (by omega) (by omega), ?_⟩
        refine hX _ _ _ _ _ _ _ ?_
        refine qi ?_ (hq _ h5)
        show _ = σ2 2 (nI k).toNatClampNeg
        rw [nI_clamp (by omega)]
        exact (h4 k (by omega)).symm
    · refine hX _ _ _ _ _ _ _ ?_
      refine c_putTwoByTwo hB hR.rq (fun σ2 h2 h3 h4 => ?_)
      have h5 := DX.of (σ := σ) (σ2 := σ2) (fun c hc => h2 c hc)
      cases s with
      | none =>
        refine ⟨fun z => absurd rfl z, fun _ => ?_⟩
        refine hX _ _ _ _ _ _ _ ?_
        exact qi h3.symm (hq _ h5)
      | some k =>
        have hk := h1 k rfl
        refine ⟨fun _ => ?_, fun z => absurd z (oN_ne (by omega))⟩
        refine hX _ _ _ _ _ _ _ ?_
        refine ⟨vp_in_nI (n := k) (by omega) (by omega), ?_⟩
        refine hX _ _ _ _ _ _ _ ?_
        refine qi ?_ (hq _ h5)
        show _ = σ2 2 (nI k).toNatClampNeg
        rw [nI_clamp (by omega)]
        exact (h4 k (by omega)).symm
  refine hX _ _ _ _ _ _ _ ?_
  refine ⟨fun h => ?_, fun h => ?_⟩
  · exact last none (fun k h => by cases h) h 0 0 (Or.inl ⟨rfl, rfl⟩)
  · refine c_needContract hB hR (fun o ho e => ?_) (fun z => q0 (fun y => y.elim h z))
    exact last (some o) (fun k h => by cases h; exact ho) e 1 6 (Or.inr ⟨rfl, rfl⟩)
end CPB
