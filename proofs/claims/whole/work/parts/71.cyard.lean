/-! THE CLASS: lines of the yard -/
def RYs (σ : mSg) (m : Nat → Int32) : Prop := RS (fun j => σ (mgl [(5, 9)] j)) m
theorem c_setMixE {d : Nat} {σ : mSg} {m : Nat → Int32} {Q : mPst} {s g : Nat} {v v' : Int32} (ev : v' = v) (hs : s < 7) (h1 : 1 ≤ g) (h2 : g < 7) (hR : RS σ m) (hq : ∀ σ', RS σ' (upd m (22 + 9 * s + g) v) → Q (.inl none) sh_7 σ') : mD (d + 1) 306 [.ref 0, .int (nI s), .int (nI g), .int v'] sh_7 σ Q := by
  subst ev
  exact c_setMix hs h1 h2 hR hq
section CYD
variable {d n i : Nat} {σ σ2 : mSg} {m m' : Nat → Int32} {t : Nat → Int32} {Q : mPst}
theorem RYs.keep (h : RYs σ m) : RYs (mback [(1, 4)] σ σ2) m := RS.congr h (fun c hc => by
  show mback [(1, 4)] σ σ2 (mgl [(5, 9)] c) = σ (mgl [(5, 9)] c)
  rw [mgl9 hc, mback_out (by omega)])
theorem RYs.of (h : RS σ2 m) : RYs (mback [(5, 9)] σ σ2) m := h.congr (fun c hc => back9 hc)
theorem RTw.p11 {k : Nat} {v : Int32} (h : RTw σ t n i) : RTw (mput σ 11 k v) t n i := h
theorem RTw.p5 {k : Nat} {v : Int32} (h : RTw σ t n i) : RTw (mput σ 5 k v) t n i := h
theorem RTw.kp5 (h : RTw σ t n i) : RTw (mback [(5, 9)] σ σ2) t n i := h
theorem RYs.put (h : RYs σ m) {c k q : Nat} (hr : rp c k = some q) (v : Int32) : RYs (mput σ (5 + c) k v) (upd m q v) := by
  have h2 := RS.put h hr v
  refine h2.congr (fun j hj => ?_)
  show mput σ (5 + c) k v (mgl [(5, 9)] j) = mput (fun j => σ (mgl [(5, 9)] j)) c k v j
  rw [mgl9 hj]
  by_cases e : j = c
  · subst e
    rw [mput_eq, mput_eq]
    show upd (σ (5 + j)) k v = upd (σ (mgl [(5, 9)] j)) k v
    rw [mgl9 hj]
  · rw [mput_ne (by omega), mput_ne e]
    show σ (5 + j) = σ (mgl [(5, 9)] j)
    rw [mgl9 hj]
def CQ (t : Nat → Int32) (n : Nat) (Q : mPst) (r : yR) : Prop := (∀ b' m', r = .inl (b', m') → ∀ σ' i', bg t n i' = b' → RTw σ' t n i' → RYs σ' m' → Q (.inl (some (.int (nI 1)))) sh_5 σ') ∧ (∀ e, r = .inr e → ∀ σ' i', bg t n i' = e → RTw σ' t n i' → Q (.inl (some (.int (nI 0)))) sh_5 σ')
theorem c_readsCart {c : Nat} (h4 : m 4 = nI c) (hc : c < 3) (hT : RTw σ t n i) (hR : RYs σ m) (hq : CQ t n Q (yCart t n (bg t n i) m)) : mD (d + 2) 277 [.ref 0] sh_5 σ Q := by
  unfold yCart at hq
  refine ⟨rfl, fun X hX => ?_⟩
  refine hX _ _ _ _ _ _ _ ?_
  refine c_tw_20 hT (fun w1 σ1 k1 => ?_) (fun w1 => ?_)
  · simp only [eW_y w1] at hq
    refine ⟨fun h => absurd h (by decide +kernel), fun _ => ?_⟩
    refine c_takeNumber (lo := nI 1) (hi := nI 9) (RTw.of (σ := σ) k1) (fun n2 σ2 k2 => ?_) (fun n2 => ?_)
    · have n2 : nB t n (nx t n (bg t n i)) (nI 1) (nI 9) = true := n2
      simp only [eN_y n2] at hq
      obtain ⟨q2, -, hq2, e2⟩ := nB_val n2 (by omega) (by omega)
      have e2' : nV t n (bg t n (i + 1)) = nI q2 := e2
      refine hX _ _ _ _ _ _ _ ?_
      refine ⟨fun h => absurd (e2'.symm.trans h) (oN_ne (by omega)), fun _ => ?_⟩
      refine c_tw_21 (RTw.of (σ := _) k2) (fun w3 σ3 k3 => ?_) (fun w3 => ?_)
      · have w3 : wB t n (nx t n (nx t n (bg t n i))) [103, 111, 101, 115] = true := w3
        simp only [eW_y w3] at hq
        refine ⟨fun _ => ?_, fun h => absurd h (by decide +kernel)⟩
        refine hX _ _ _ _ _ _ _ ?_
        refine c_takeNumber (lo := nI 1) (hi := nI 99) (RTw.of (σ := _) k3) (fun n4 σ4 k4 => ?_) (fun n4 => ?_)
        · have n4 : nB t n (nx t n (nx t n (nx t n (bg t n i)))) (nI 1) (nI 99) = true := n4
          simp only [eN_y n4] at hq
          obtain ⟨q4, -, hq4, e4⟩ := nB_val n4 (by omega) (by omega)
          have e4' : nV t n (bg t n (i + 3)) = nI q4 := e4
          refine ⟨fun h => absurd (e4'.symm.trans h) (oN_ne (by omega)), fun _ => ?_⟩
          refine c_addCart hc h4 (RYs.keep (RYs.keep (RYs.keep (RYs.keep hR)))) ?_
          intro σ5 r5
          refine ⟨fun h => absurd h (oN_ne (by omega)), fun _ => ?_⟩
          refine hX _ _ _ _ _ _ _ ?_
          rw [cN_eq h4 (by omega)] at hq
          exact ⟨Or.inr rfl, hq.1 _ _ rfl _ (i + 4) rfl (RTw.kp5 (RTw.of k4)) (RYs.of r5)⟩
        · have n4 : ¬ nB t n (nx t n (nx t n (nx t n (bg t n i)))) (nI 1) (nI 99) = true := n4
          simp only [eN_n n4] at hq
          refine ⟨fun _ => ?_, fun h => absurd rfl h⟩
          refine hX _ _ _ _ _ _ _ ?_
          refine hX _ _ _ _ _ _ _ ?_
          exact ⟨Or.inl rfl, hq.2 _ rfl _ (i + 3) rfl (RTw.of (σ := _) (RTw.of (σ := _) k3))⟩
      · have w3 : ¬ wB t n (nx t n (nx t n (bg t n i))) [103, 111, 101, 115] = true := w3
        simp only [eW_n w3] at hq
        refine ⟨fun h => absurd rfl h, fun _ => ?_⟩
        refine hX _ _ _ _ _ _ _ ?_
        exact ⟨Or.inl rfl, hq.2 _ rfl _ (i + 2) rfl (RTw.of (σ := _) (RTw.of (σ := _) k2))⟩
    · have n2 : ¬ nB t n (nx t n (bg t n i)) (nI 1) (nI 9) = true := n2
      simp only [eN_n n2] at hq
      refine hX _ _ _ _ _ _ _ ?_
      refine ⟨fun _ => ?_, fun h => absurd rfl h⟩
      refine hX _ _ _ _ _ _ _ ?_
      exact ⟨Or.inl rfl, hq.2 _ rfl _ (i + 1) rfl (RTw.of (σ := _) (RTw.of (σ := σ) k1))⟩
  · simp only [eW_n w1] at hq
    refine ⟨fun _ => ?_, fun h => absurd rfl h⟩
    refine hX _ _ _ _ _ _ _ ?_
    refine hX _ _ _ _ _ _ _ ?_
    refine ⟨fun _ => ?_, fun h => absurd rfl h⟩
    refine hX _ _ _ _ _ _ _ ?_
    exact ⟨Or.inl rfl, hq.2 _ rfl _ i rfl (RTw.of (σ := σ) hT)⟩
theorem c_readsSieve {c : Nat} (h4 : m 5 = nI c) (hc : c < 4) (hT : RTw σ t n i) (hR : RYs σ m) (hq : CQ t n Q (ySieve t n (bg t n i) m)) : mD (d + 2) 278 [.ref 0] sh_5 σ Q := by
  unfold ySieve at hq
  refine ⟨rfl, fun X hX => ?_⟩
  refine hX _ _ _ _ _ _ _ ?_
  refine c_takeNumber (lo := nI 2) (hi := nI 6) hT (fun n2 σ2 k2 => ?_) (fun n2 => ?_)
  · simp only [eN_y n2] at hq
    obtain ⟨q2, -, hq2, e2⟩ := nB_val n2 (by omega) (by omega)
    refine ⟨fun h => absurd (e2.symm.trans h) (oN_ne (by omega)), fun _ => ?_⟩
    refine c_addSieve hc h4 (RYs.keep hR) ?_
    intro σ5 r5
    refine ⟨fun h => absurd h (oN_ne (by omega)), fun _ => ?_⟩
    refine hX _ _ _ _ _ _ _ ?_
    rw [cN_eq h4 (by omega)] at hq
    exact ⟨Or.inr rfl, hq.1 _ _ rfl _ (i + 1) rfl (RTw.kp5 (RTw.of k2)) (RYs.of r5)⟩
  · simp only [eN_n n2] at hq
    refine ⟨fun _ => ?_, fun h => absurd rfl h⟩
    refine hX _ _ _ _ _ _ _ ?_
    refine hX _ _ _ _ _ _ _ ?_
    exact ⟨Or.inl rfl, hq.2 _ rfl _ i rfl (RTw.of (σ := σ) hT)⟩
theorem c_readsHeap (hT : RTw σ t n i) (hR : RYs σ m) (hq : CQ t n Q (yHeap t n (bg t n i) m)) : mD (d + 2) 280 [.ref 0] sh_5 σ Q := by
  unfold yHeap at hq
  refine ⟨rfl, fun X hX => ?_⟩
  refine hX _ _ _ _ _ _ _ ?_
  refine c_takeNumber (lo := nI 1) (hi := nI 6) hT (fun n1 σ1 k1 => ?_) (fun n1 => ?_)
  · simp only [eN_y n1] at hq
    obtain ⟨q1, hq0, hq1, e1⟩ := nB_val n1 (by omega) (by omega)
    refine ⟨fun h => absurd (e1.symm.trans h) (oN_ne (by omega)), fun _ => ?_⟩
    refine c_takeNumber (lo := nI 0) (hi := nI 999) (RTw.of (σ := σ) k1) (fun n2 σ2 k2 => ?_) (fun n2 => ?_)
    · have n2 : nB t n (nx t n (bg t n i)) (nI 0) (nI 999) = true := n2
      simp only [eN_y n2] at hq
      obtain ⟨q2, -, hq2, e2⟩ := nB_val n2 (by omega) (by omega)
      have e2' : nV t n (bg t n (i + 1)) = nI q2 := e2
      refine hX _ _ _ _ _ _ _ ?_
      refine ⟨fun _ => ?_, fun h => absurd (e2'.symm.trans h) (oN_ne (by omega))⟩
      refine hX _ _ _ _ _ _ _ ?_
      refine ⟨vin e1 (by omega) (by omega), ?_⟩
      refine ⟨Or.inr rfl, hq.1 _ _ rfl _ (i + 2) rfl (RTw.p11 (RTw.of k2)) ?_⟩
      have h3 := RYs.put (RYs.keep (σ2 := σ2) (RYs.keep (σ2 := σ1) hR)) (rqh q1 (by omega) hq0) (nV t n (nx t n (bg t n i)))
      rw [e1, nI_clamp (by omega)]
      have e5 : (nV t n (bg t n i)).toNatClampNeg = q1 := by rw [e1, nI_clamp (by omega)]
      rw [← e5] at h3 ⊢
      exact h3
    · have n2 : ¬ nB t n (nx t n (bg t n i)) (nI 0) (nI 999) = true := n2
      simp only [eN_n n2] at hq
      refine hX _ _ _ _ _ _ _ ?_
      refine ⟨fun h => absurd rfl h, fun _ => ?_⟩
      exact ⟨Or.inl rfl, hq.2 _ rfl _ (i + 1) rfl (RTw.of (σ := _) (RTw.of (σ := σ) k1))⟩
  · simp only [eN_n n1] at hq
    refine ⟨fun _ => ?_, fun h => absurd rfl h⟩
    refine hX _ _ _ _ _ _ _ ?_
    refine hX _ _ _ _ _ _ _ ?_
    refine ⟨fun h => absurd rfl h, fun _ => ?_⟩
    exact ⟨Or.inl rfl, hq.2 _ rfl _ i rfl (RTw.of (σ := σ) hT)⟩
theorem c_readsContract {c : Nat} (h4 : m 6 = nI c) (hc : c < 6) (hT : RTw σ t n i) (hR : RYs σ m) (hq : CQ t n Q (yDeal t n (bg t n i) m)) : mD (d + 2) 279 [.ref 0] sh_5 σ Q := by
  unfold yDeal at hq
  refine ⟨rfl, fun X hX => ?_⟩
  have s90 : ∀ σ1 lo hi q, RTw σ1 t n (i + 6) → RYs σ1 m → CQ t n Q (eN t n (nI 0) (nI 9) (bg t n (i + 6)) fun p b7 => .inl (b7, yaD m (cN m 6) lo hi q p)) → X 90 [some (.ref 0), some (.int lo), some (.int hi), some (.int q), none] [] sh_5 σ1 0 0 := by
    intro σ1 lo hi q h1 h2 hq
    refine hX _ _ _ _ _ _ _ ?_
    refine c_takeNumber (lo := nI 0) (hi := nI 9) h1 (fun n2 σ2 k2 => ?_) (fun n2 => ?_)
    · simp only [eN_y n2] at hq
      obtain ⟨q2, -, hq2, e2⟩ := nB_val n2 (by omega) (by omega)
      refine ⟨fun h => absurd (e2.symm.trans h) (oN_ne (by omega)), fun _ => ?_⟩
      refine c_addContract hc h4 (RYs.keep h2) ?_
      intro σ5 r5
      refine ⟨fun h => absurd h (oN_ne (by omega)), fun _ => ?_⟩
      refine hX _ _ _ _ _ _ _ ?_
      rw [cN_eq h4 (by omega)] at hq
      exact ⟨Or.inr rfl, hq.1 _ _ rfl _ (i + 7) rfl (RTw.kp5 (RTw.of k2)) (RYs.of r5)⟩
    · simp only [eN_n n2] at hq
      refine ⟨fun _ => ?_, fun h => absurd rfl h⟩
      refine hX _ _ _ _ _ _ _ ?_
      refine hX _ _ _ _ _ _ _ ?_
      exact ⟨Or.inl rfl, hq.2 _ rfl _ (i + 6) rfl (RTw.of (σ := σ1) h1)⟩
  have s60 : ∀ σ1 lo hi, RTw σ1 t n (i + 4) → RYs σ1 m → CQ t n Q (eN t n (nI 1) (nI 99) (bg t n (i + 4)) fun q b5 => eW t n [112, 97, 121, 115] b5 fun b6 => eN t n (nI 0) (nI 9) b6 fun p b7 => .inl (b7, yaD m (cN m 6) lo hi q p)) → X 60 [some (.ref 0), some (.int lo), some (.int hi), none, none] [] sh_5 σ1 0 0 := by
    intro σ1 lo hi h1 h2 hq
    refine hX _ _ _ _ _ _ _ ?_
    refine c_takeNumber (lo := nI 1) (hi := nI 99) h1 (fun n2 σ2 k2 => ?_) (fun n2 => ?_)
    · simp only [eN_y n2] at hq
      obtain ⟨q2, -, hq2, e2⟩ := nB_val n2 (by omega) (by omega)
      refine ⟨fun h => absurd (e2.symm.trans h) (oN_ne (by omega)), fun _ => ?_⟩
      refine c_tw_26 (RTw.of (σ := _) k2) (fun w3 σ3 k3 => ?_) (fun w3 => ?_)
      · have w3' : wB t n (nx t n (bg t n (i + 4))) [112, 97, 121, 115] = true := w3
        simp only [eW_y w3'] at hq
        refine ⟨fun _ => ?_, fun h => absurd h (by decide +kernel)⟩
        exact s90 _ lo hi _ (RTw.of k3) (RYs.keep (RYs.keep h2)) hq
      · have w3' : ¬ wB t n (nx t n (bg t n (i + 4))) [112, 97, 121, 115] = true := w3
        simp only [eW_n w3'] at hq
        refine ⟨fun h => absurd rfl h, fun _ => ?_⟩
        refine hX _ _ _ _ _ _ _ ?_
        exact ⟨Or.inl rfl, hq.2 _ rfl _ (i + 5) rfl (RTw.of (σ := _) (RTw.of (σ := _) k2))⟩
    · simp only [eN_n n2] at hq
      refine ⟨fun _ => ?_, fun h => absurd rfl h⟩
      refine hX _ _ _ _ _ _ _ ?_
      exact ⟨Or.inl rfl, hq.2 _ rfl _ (i + 4) rfl (RTw.of (σ := σ1) h1)⟩
  have s30 : ∀ σ1 lo l, lo = nI l → l ≤ 6 → RTw σ1 t n (i + 2) → RYs σ1 m → CQ t n Q (eN t n lo (nI 6) (bg t n (i + 2)) fun hi b3 => eW t n [109, 97, 110, 121] b3 fun b4 => eN t n (nI 1) (nI 99) b4 fun q b5 => eW t n [112, 97, 121, 115] b5 fun b6 => eN t n (nI 0) (nI 9) b6 fun p b7 => .inl (b7, yaD m (cN m 6) lo hi q p)) → X 30 [some (.ref 0), some (.int lo), none, none, none] [] sh_5 σ1 0 0 := by
    intro σ1 lo l elo hl h1 h2 hq
    refine hX _ _ _ _ _ _ _ ?_
    refine c_takeNumber (lo := lo) (hi := nI 6) h1 (fun n2 σ2 k2 => ?_) (fun n2 => ?_)
    · simp only [eN_y n2] at hq
      obtain ⟨q2, -, hq2, e2⟩ := nB_val (elo ▸ n2) (by omega) (by omega)
      refine ⟨fun h => absurd (e2.symm.trans h) (oN_ne (by omega)), fun _ => ?_⟩
      refine c_tw_25 (RTw.of (σ := _) k2) (fun w3 σ3 k3 => ?_) (fun w3 => ?_)
      · have w3' : wB t n (nx t n (bg t n (i + 2))) [109, 97, 110, 121] = true := w3
        simp only [eW_y w3'] at hq
        refine ⟨fun _ => ?_, fun h => absurd h (by decide +kernel)⟩
        exact s60 _ lo _ (RTw.of k3) (RYs.keep (RYs.keep h2)) hq
      · have w3' : ¬ wB t n (nx t n (bg t n (i + 2))) [109, 97, 110, 121] = true := w3
        simp only [eW_n w3'] at hq
        refine ⟨fun h => absurd rfl h, fun _ => ?_⟩
        refine hX _ _ _ _ _ _ _ ?_
        exact ⟨Or.inl rfl, hq.2 _ rfl _ (i + 3) rfl (RTw.of (σ := _) (RTw.of (σ := _) k2))⟩
    · simp only [eN_n n2] at hq
      refine ⟨fun _ => ?_, fun h => absurd rfl h⟩
      refine hX _ _ _ _ _ _ _ ?_
      exact ⟨Or.inl rfl, hq.2 _ rfl _ (i + 2) rfl (RTw.of (σ := σ1) h1)⟩
  refine hX _ _ _ _ _ _ _ ?_
  refine c_takeNumber (lo := nI 1) (hi := nI 6) hT (fun n2 σ2 k2 => ?_) (fun n2 => ?_)
  · simp only [eN_y n2] at hq
    obtain ⟨q2, -, hq2, e2⟩ := nB_val n2 (by omega) (by omega)
    refine ⟨fun h => absurd (e2.symm.trans h) (oN_ne (by omega)), fun _ => ?_⟩
    refine c_tw_24 (RTw.of (σ := _) k2) (fun w3 σ3 k3 => ?_) (fun w3 => ?_)
    · have w3' : wB t n (nx t n (bg t n i)) [116, 111] = true := w3
      simp only [eW_y w3'] at hq
      refine ⟨fun _ => ?_, fun h => absurd h (by decide +kernel)⟩
      exact s30 _ _ q2 e2 hq2 (RTw.of k3) (RYs.keep (RYs.keep hR)) hq
    · have w3' : ¬ wB t n (nx t n (bg t n i)) [116, 111] = true := w3
      simp only [eW_n w3'] at hq
      refine ⟨fun h => absurd rfl h, fun _ => ?_⟩
      refine hX _ _ _ _ _ _ _ ?_
      exact ⟨Or.inl rfl, hq.2 _ rfl _ (i + 1) rfl (RTw.of (σ := _) (RTw.of (σ := _) k2))⟩
  · simp only [eN_n n2] at hq
    refine ⟨fun _ => ?_, fun h => absurd rfl h⟩
    refine hX _ _ _ _ _ _ _ ?_
    exact ⟨Or.inl rfl, hq.2 _ rfl _ i rfl (RTw.of (σ := σ) hT)⟩
theorem c_readsRest (hT : RTw σ t n i) (hR : RYs σ m) (hq : CQ t n Q (yRest t n (bg t n i) m)) : mD (d + 2) 281 [.ref 0] sh_5 σ Q := by
  unfold yRest at hq
  refine ⟨rfl, fun X hX => ?_⟩
  have s186 : CQ t n Q (eO t n [115, 109, 111, 107, 101] (bg t n i) (fun b1 => .inl (b1, upd m 11 (nI 1))) (.inr (bg t n i))) → ∀ σ1, RTw σ1 t n i → RYs σ1 m → X 186 [some (.ref 0)] [] sh_5 σ1 0 0 := by
    intro hq σ1 h1 h2
    refine hX _ _ _ _ _ _ _ ?_
    refine c_tw_5 h1 (fun w1 σ2 k2 => ?_) (fun w1 => ?_)
    · simp only [eO_y w1] at hq
      refine ⟨fun h => absurd h (by decide +kernel), fun _ => ?_⟩
      exact ⟨Or.inr rfl, Or.inr rfl, hq.1 _ _ rfl _ (i + 1) rfl (RTw.p5 (RTw.of k2)) (RYs.put (c := 0) (RYs.keep h2) rf0.2.2.2.2.2.2.2.2.2.1 (nI 1))⟩
    · simp only [eO_n w1] at hq
      refine ⟨fun _ => ?_, fun h => absurd rfl h⟩
      refine hX _ _ _ _ _ _ _ ?_
      exact ⟨Or.inl rfl, hq.2 _ rfl _ i rfl (RTw.of (σ := σ1) h1)⟩
  have s139 : CQ t n Q (eO t n [100, 97, 121] (bg t n i) (fun b1 => yTell t n 10 999 b1 m) (eO t n [115, 109, 111, 107, 101] (bg t n i) (fun b1 => .inl (b1, upd m 11 (nI 1))) (.inr (bg t n i)))) → ∀ σ1, RTw σ1 t n i → RYs σ1 m → X 139 [some (.ref 0)] [] sh_5 σ1 0 0 := by
    intro hq σ1 h1 h2
    refine hX _ _ _ _ _ _ _ ?_
    refine c_tw_14 h1 (fun w1 σ2 k2 => ?_) (fun w1 => ?_)
    · simp only [eO_y w1] at hq
      unfold yTell at hq
      refine ⟨fun h => absurd h (by decide +kernel), fun _ => ?_⟩
      refine c_takeNumber (lo := nI 0) (hi := nI 999) (RTw.of (σ := σ1) k2) (fun n3 σ3 k3 => ?_) (fun n3 => ?_)
      · have n3' : nB t n (nx t n (bg t n i)) (nI 0) (nI 999) = true := n3
        simp only [eN_y n3'] at hq
        obtain ⟨q3, -, hq3, e3⟩ := nB_val n3 (by omega) (by omega)
        refine ⟨fun h => absurd (e3.symm.trans h) (oN_ne (by omega)), fun _ => ?_⟩
        refine hX _ _ _ _ _ _ _ ?_
        exact ⟨Or.inr rfl, hq.1 _ _ rfl _ (i + 2) rfl (RTw.p5 (RTw.of k3)) (RYs.put (c := 0) (RYs.keep (RYs.keep h2)) rf0.2.2.2.2.2.2.2.2.1 _)⟩
      · have n3' : ¬ nB t n (nx t n (bg t n i)) (nI 0) (nI 999) = true := n3
        simp only [eN_n n3'] at hq
        refine ⟨fun _ => ?_, fun h => absurd rfl h⟩
        refine hX _ _ _ _ _ _ _ ?_
        refine hX _ _ _ _ _ _ _ ?_
        exact ⟨Or.inl rfl, hq.2 _ rfl _ (i + 1) rfl (RTw.p5 (RTw.of (RTw.of (σ := σ1) k2)))⟩
    · simp only [eO_n w1] at hq
      refine ⟨fun _ => ?_, fun h => absurd rfl h⟩
      exact s186 hq _ (RTw.of (σ := σ1) h1) (RYs.keep h2)
  have s92 : CQ t n Q (eO t n [116, 105, 108, 108] (bg t n i) (fun b1 => yTell t n 9 999 b1 m) (eO t n [100, 97, 121] (bg t n i) (fun b1 => yTell t n 10 999 b1 m) (eO t n [115, 109, 111, 107, 101] (bg t n i) (fun b1 => .inl (b1, upd m 11 (nI 1))) (.inr (bg t n i))))) → ∀ σ1, RTw σ1 t n i → RYs σ1 m → X 92 [some (.ref 0)] [] sh_5 σ1 0 0 := by
    intro hq σ1 h1 h2
    refine hX _ _ _ _ _ _ _ ?_
    refine c_tw_13 h1 (fun w1 σ2 k2 => ?_) (fun w1 => ?_)
    · simp only [eO_y w1] at hq
      unfold yTell at hq
      refine ⟨fun h => absurd h (by decide +kernel), fun _ => ?_⟩
      refine c_takeNumber (lo := nI 0) (hi := nI 999) (RTw.of (σ := σ1) k2) (fun n3 σ3 k3 => ?_) (fun n3 => ?_)
      · have n3' : nB t n (nx t n (bg t n i)) (nI 0) (nI 999) = true := n3
        simp only [eN_y n3'] at hq
        obtain ⟨q3, -, hq3, e3⟩ := nB_val n3 (by omega) (by omega)
        refine ⟨fun h => absurd (e3.symm.trans h) (oN_ne (by omega)), fun _ => ?_⟩
        refine hX _ _ _ _ _ _ _ ?_
        exact ⟨Or.inr rfl, hq.1 _ _ rfl _ (i + 2) rfl (RTw.p5 (RTw.of k3)) (RYs.put (c := 0) (RYs.keep (RYs.keep h2)) rf0.2.2.2.2.2.2.2.1 _)⟩
      · have n3' : ¬ nB t n (nx t n (bg t n i)) (nI 0) (nI 999) = true := n3
        simp only [eN_n n3'] at hq
        refine ⟨fun _ => ?_, fun h => absurd rfl h⟩
        refine hX _ _ _ _ _ _ _ ?_
        refine hX _ _ _ _ _ _ _ ?_
        exact ⟨Or.inl rfl, hq.2 _ rfl _ (i + 1) rfl (RTw.p5 (RTw.of (RTw.of (σ := σ1) k2)))⟩
    · simp only [eO_n w1] at hq
      refine ⟨fun _ => ?_, fun h => absurd rfl h⟩
      exact s139 hq _ (RTw.of (σ := σ1) h1) (RYs.keep h2)
  have s46 : CQ t n Q (eO t n [114, 97, 116, 115] (bg t n i) (fun b1 => yTell t n 8 100 b1 m) (eO t n [116, 105, 108, 108] (bg t n i) (fun b1 => yTell t n 9 999 b1 m) (eO t n [100, 97, 121] (bg t n i) (fun b1 => yTell t n 10 999 b1 m) (eO t n [115, 109, 111, 107, 101] (bg t n i) (fun b1 => .inl (b1, upd m 11 (nI 1))) (.inr (bg t n i)))))) → ∀ σ1, RTw σ1 t n i → RYs σ1 m → X 46 [some (.ref 0)] [] sh_5 σ1 0 0 := by
    intro hq σ1 h1 h2
    refine hX _ _ _ _ _ _ _ ?_
    refine c_tw_29 h1 (fun w1 σ2 k2 => ?_) (fun w1 => ?_)
    · simp only [eO_y w1] at hq
      unfold yTell at hq
      refine ⟨fun h => absurd h (by decide +kernel), fun _ => ?_⟩
      refine c_takeNumber (lo := nI 0) (hi := nI 100) (RTw.of (σ := σ1) k2) (fun n3 σ3 k3 => ?_) (fun n3 => ?_)
      · have n3' : nB t n (nx t n (bg t n i)) (nI 0) (nI 100) = true := n3
        simp only [eN_y n3'] at hq
        obtain ⟨q3, -, hq3, e3⟩ := nB_val n3 (by omega) (by omega)
        refine ⟨fun h => absurd (e3.symm.trans h) (oN_ne (by omega)), fun _ => ?_⟩
        refine hX _ _ _ _ _ _ _ ?_
        exact ⟨Or.inr rfl, hq.1 _ _ rfl _ (i + 2) rfl (RTw.p5 (RTw.of k3)) (RYs.put (c := 0) (RYs.keep (RYs.keep h2)) rf0.2.2.2.2.2.2.1 _)⟩
      · have n3' : ¬ nB t n (nx t n (bg t n i)) (nI 0) (nI 100) = true := n3
        simp only [eN_n n3'] at hq
        refine ⟨fun _ => ?_, fun h => absurd rfl h⟩
        refine hX _ _ _ _ _ _ _ ?_
        refine hX _ _ _ _ _ _ _ ?_
        exact ⟨Or.inl rfl, hq.2 _ rfl _ (i + 1) rfl (RTw.p5 (RTw.of (RTw.of (σ := σ1) k2)))⟩
    · simp only [eO_n w1] at hq
      refine ⟨fun _ => ?_, fun h => absurd rfl h⟩
      exact s92 hq _ (RTw.of (σ := σ1) h1) (RYs.keep h2)
  have s0 : CQ t n Q (eO t n [102, 105, 114, 101] (bg t n i) (fun b1 => yTell t n 7 100 b1 m) (eO t n [114, 97, 116, 115] (bg t n i) (fun b1 => yTell t n 8 100 b1 m) (eO t n [116, 105, 108, 108] (bg t n i) (fun b1 => yTell t n 9 999 b1 m) (eO t n [100, 97, 121] (bg t n i) (fun b1 => yTell t n 10 999 b1 m) (eO t n [115, 109, 111, 107, 101] (bg t n i) (fun b1 => .inl (b1, upd m 11 (nI 1))) (.inr (bg t n i))))))) → ∀ σ1, RTw σ1 t n i → RYs σ1 m → X 0 [some (.ref 0)] [] sh_5 σ1 0 0 := by
    intro hq σ1 h1 h2
    refine hX _ _ _ _ _ _ _ ?_
    refine c_tw_28 h1 (fun w1 σ2 k2 => ?_) (fun w1 => ?_)
    · simp only [eO_y w1] at hq
      unfold yTell at hq
      refine ⟨fun h => absurd h (by decide +kernel), fun _ => ?_⟩
      refine c_takeNumber (lo := nI 0) (hi := nI 100) (RTw.of (σ := σ1) k2) (fun n3 σ3 k3 => ?_) (fun n3 => ?_)
      · have n3' : nB t n (nx t n (bg t n i)) (nI 0) (nI 100) = true := n3
        simp only [eN_y n3'] at hq
        obtain ⟨q3, -, hq3, e3⟩ := nB_val n3 (by omega) (by omega)
        refine ⟨fun h => absurd (e3.symm.trans h) (oN_ne (by omega)), fun _ => ?_⟩
        refine hX _ _ _ _ _ _ _ ?_
        exact ⟨Or.inr rfl, hq.1 _ _ rfl _ (i + 2) rfl (RTw.p5 (RTw.of k3)) (RYs.put (c := 0) (RYs.keep (RYs.keep h2)) rf0.2.2.2.2.2.1 _)⟩
      · have n3' : ¬ nB t n (nx t n (bg t n i)) (nI 0) (nI 100) = true := n3
        simp only [eN_n n3'] at hq
        refine ⟨fun _ => ?_, fun h => absurd rfl h⟩
        refine hX _ _ _ _ _ _ _ ?_
        refine hX _ _ _ _ _ _ _ ?_
        exact ⟨Or.inl rfl, hq.2 _ rfl _ (i + 1) rfl (RTw.p5 (RTw.of (RTw.of (σ := σ1) k2)))⟩
    · simp only [eO_n w1] at hq
      refine ⟨fun _ => ?_, fun h => absurd rfl h⟩
      exact s46 hq _ (RTw.of (σ := σ1) h1) (RYs.keep h2)
  exact s0 hq σ hT hR
set_option maxHeartbeats 4000000 in
theorem c_readsStreet {c : Nat} (h4 : m 3 = nI c) (hc : c < 7) (hT : RTw σ t n i) (hR : RYs σ m) (hq : CQ t n Q (yStreet t n (bg t n i) m)) : mD (d + 3) 276 [.ref 0] sh_5 σ Q := by
  have hn := hT.1
  unfold yStreet at hq
  refine ⟨rfl, fun X hX => ?_⟩
  have s119 : ∀ σ1 i1 x y w, run kD t n (bg t n (i + 4)) = bg t n (i + 4) + 6 → RTw σ1 t n i1 → RYs σ1 m → CQ t n Q (.inl (bg t n i1, yMx (yaS m (cN m 3) x y w) (cN m 3) t (bg t n (i + 4)) 6)) → X 119 [some (.ref 0), some (.int x), some (.int y), some (.int (nI (bg t n (i + 4)))), some (.int w), none, none] [] sh_5 σ1 0 0 := by
    intro σ1 i1 x y w hr h1 h2 hq
    generalize bg t n (i + 4) = b4 at *
    rw [cN_eq h4 (by omega)] at hq
    have loop : ∀ j k σ2, 6 - k = j → k ≤ 6 → RTw σ2 t n i1 → RYs σ2 (yMx (yaS m c x y w) c t b4 k) → X 135 [some (.ref 0), none, none, some (.int (nI b4)), none, some (.int (nI c)), some (.int (nI (k + 1)))] [] sh_5 σ2 0 0 := by
      intro j
      induction j with
      | zero =>
        intro k σ2 hj hk g1 g2
        have ek : k = 6 := by omega
        subst ek
        refine hX _ _ _ _ _ _ _ ?_
        refine b_gt rfl (b := 6) rfl (by omega) (by omega) (fun _ => ?_) (fun h => by omega)
        refine hX _ _ _ _ _ _ _ ?_
        exact ⟨Or.inr rfl, hq.1 _ _ rfl σ2 i1 rfl g1 g2⟩
      | succ j ih =>
        intro k σ2 hj hk g1 g2
        have hlt : b4 + k < n := (run_all (P := kD) (t := t) (n := n) (p := b4) (q := b4 + k) (by omega) (by omega)).1
        have ei : nI b4 + nI (k + 1) - nI 1 = nI (b4 + k) := by rw [nI_add, nI_sub (by omega)]; congr 1
        refine hX _ _ _ _ _ _ _ ?_
        refine b_gt rfl (b := 6) rfl (by omega) (by omega) (fun h => by omega) (fun _ => ?_)
        refine ⟨fun h => absurd h (oN_ne (by omega)), fun _ => ?_⟩
        refine ⟨vin ei (by omega) (by omega), ?_⟩
        have eb : σ2 2 (nI b4 + nI (k + 1) - nI 1).toNatClampNeg = t (b4 + k) := by rw [clN ei (by omega)]; exact g1.2.2.1 _ hlt
        refine c_setMixE (v := t (b4 + k) - nI 48) (by show σ2 2 (nI b4 + nI (k + 1) - nI 1).toNatClampNeg - nI 48 = _; rw [eb]) hc (show 1 ≤ k + 1 by omega) (by omega) g2 ?_
        intro σ3 r3
        rw [show 22 + 9 * c + (k + 1) = 23 + 9 * c + k by omega] at r3
        have key : ∀ σx, RTw σx t n i1 → RYs σx (yMx (yaS m c x y w) c t b4 (k + 1)) → X 135 [some (.ref 0), none, none, some (.int (nI b4)), none, some (.int (nI c)), some (.int (nI (k + 1) + nI 1))] [] sh_5 σx 0 0 := by
          intro σx x1 x2
          rw [show nI (k + 1) + nI 1 = nI (k + 1 + 1) from nI_1 _]
          exact ih (k + 1) σx (by omega) (by omega) x1 x2
        exact key _ (RTw.kp5 g1) (RYs.of r3)
    refine hX _ _ _ _ _ _ _ ?_
    refine c_addStreet hc h4 h2 ?_
    intro σ2 r2
    exact loop _ 0 _ rfl (by omega) (RTw.kp5 h1) (RYs.of r2)
  have s109 : ∀ σ1 i1 x y w, run kD t n (bg t n (i + 4)) = bg t n (i + 4) + 6 → (∃ q, q ≤ 99 ∧ w = nI q) → RTw σ1 t n i1 → RYs σ1 m → CQ t n Q (.inl (bg t n i1, yMx (yaS m (cN m 3) x y w) (cN m 3) t (bg t n (i + 4)) 6)) → X 109 [some (.ref 0), some (.int x), some (.int y), some (.int (nI (bg t n (i + 4)))), none, none, none] [.int w] sh_5 σ1 0 0 := by
    intro σ1 i1 x y w hr hw h1 h2 hq
    obtain ⟨q, hq9, rfl⟩ := hw
    refine hX _ _ _ _ _ _ _ ?_
    refine ⟨fun _ => ?_, fun h => absurd h (oN_ne (by omega))⟩
    exact s119 σ1 i1 x y _ hr h1 h2 hq
  have s66 : ∀ σ1 x y, RTw σ1 t n (i + 4) → RYs σ1 m → CQ t n Q (eF t n (bg t n (i + 4)) fun b5 => eO t n [119, 97, 105, 116, 115] b5 (fun b6 => eN t n (nI 0) (nI 99) b6 fun w b7 => .inl (b7, yMx (yaS m (cN m 3) x y w) (cN m 3) t (bg t n (i + 4)) 6)) (.inl (b5, yMx (yaS m (cN m 3) x y (nI 0)) (cN m 3) t (bg t n (i + 4)) 6))) → X 66 [some (.ref 0), some (.int x), some (.int y), none, none, none, none] [] sh_5 σ1 0 0 := by
    intro σ1 x y h1 h2 hq
    have hbl := bg_le (t := t) (n := n) (i + 4)
    refine hX _ _ _ _ _ _ _ ?_
    refine c_takeFigures h1 (fun r2 σ2 k2 => ?_) (fun r2 => ?_)
    · simp only [eF_y r2] at hq
      refine ⟨fun _ => ?_, fun h => absurd h (oN_ne (by omega))⟩
      refine hX _ _ _ _ _ _ _ ?_
      refine c_tw_11 (RTw.of (σ := σ1) k2) (fun w3 σ3 k3 => ?_) (fun w3 => ?_)
      · have w3' : wB t n (nx t n (bg t n (i + 4))) [119, 97, 105, 116, 115] = true := w3
        simp only [eO_y w3'] at hq
        refine ⟨fun h => absurd h (by decide +kernel), fun _ => ?_⟩
        refine c_takeNumber (lo := nI 0) (hi := nI 99) (RTw.of (σ := _) k3) (fun n4 σ4 k4 => ?_) (fun n4 => ?_)
        · have n4' : nB t n (nx t n (nx t n (bg t n (i + 4)))) (nI 0) (nI 99) = true := n4
          simp only [eN_y n4'] at hq
          obtain ⟨q4, -, hq4, e4⟩ := nB_val n4 (by omega) (by omega)
          exact s109 _ (i + 7) x y _ r2 ⟨q4, hq4, e4⟩ (RTw.of k4) (RYs.keep (RYs.keep (RYs.keep h2))) hq
        · have n4' : ¬ nB t n (nx t n (nx t n (bg t n (i + 4)))) (nI 0) (nI 99) = true := n4
          simp only [eN_n n4'] at hq
          refine hX _ _ _ _ _ _ _ ?_
          refine ⟨fun h => absurd rfl h, fun _ => ?_⟩
          exact ⟨Or.inl rfl, hq.2 _ rfl _ (i + 6) rfl (RTw.of (σ := _) (RTw.of (σ := _) k3))⟩
      · have w3' : ¬ wB t n (nx t n (bg t n (i + 4))) [119, 97, 105, 116, 115] = true := w3
        simp only [eO_n w3'] at hq
        refine ⟨fun _ => ?_, fun h => absurd rfl h⟩
        refine hX _ _ _ _ _ _ _ ?_
        exact s109 _ (i + 5) x y (nI 0) r2 ⟨0, by omega, rfl⟩ (RTw.of (σ := _) (RTw.of (σ := σ1) k2)) (RYs.keep (RYs.keep h2)) hq
    · simp only [eF_n r2] at hq
      refine ⟨fun h => absurd rfl h, fun _ => ?_⟩
      exact ⟨Or.inl rfl, hq.2 _ rfl _ (i + 4) rfl (RTw.of (σ := σ1) h1)⟩
  have b46 : ∀ {x : Option Value} σ1 i1, CQ t n Q (.inr (bg t n i1)) → RTw σ1 t n i1 → X 46 [some (.ref 0), x, none, none, none, none, none] [.int (-(nI 1))] sh_5 σ1 0 0 := by
    intro x σ1 i1 hq h1
    refine hX _ _ _ _ _ _ _ ?_
    refine ⟨fun _ => ?_, fun h => absurd rfl h⟩
    refine hX _ _ _ _ _ _ _ ?_
    exact ⟨Or.inl rfl, hq.2 _ rfl σ1 i1 rfl h1⟩
  have b26 : ∀ σ1 i1, CQ t n Q (.inr (bg t n i1)) → RTw σ1 t n i1 → X 26 [some (.ref 0), none, none, none, none, none, none] [.int (-(nI 1))] sh_5 σ1 0 0 := by
    intro σ1 i1 hq h1
    refine hX _ _ _ _ _ _ _ ?_
    refine ⟨fun _ => ?_, fun h => absurd rfl h⟩
    refine hX _ _ _ _ _ _ _ ?_
    exact b46 σ1 i1 hq h1
  have s46 : ∀ σ1 x y q, y = nI q → q ≤ 9 → RTw σ1 t n (i + 3) → RYs σ1 m → CQ t n Q (eW t n [109, 105, 120] (bg t n (i + 3)) fun b4 => eF t n b4 fun b5 => eO t n [119, 97, 105, 116, 115] b5 (fun b6 => eN t n (nI 0) (nI 99) b6 fun w b7 => .inl (b7, yMx (yaS m (cN m 3) x y w) (cN m 3) t b4 6)) (.inl (b5, yMx (yaS m (cN m 3) x y (nI 0)) (cN m 3) t b4 6))) → X 46 [some (.ref 0), some (.int x), none, none, none, none, none] [.int y] sh_5 σ1 0 0 := by
    intro σ1 x y q ey hq9 h1 h2 hq
    refine hX _ _ _ _ _ _ _ ?_
    refine ⟨fun h => absurd (ey.symm.trans h) (oN_ne (by omega)), fun _ => ?_⟩
    refine c_tw_18 h1 (fun w3 σ3 k3 => ?_) (fun w3 => ?_)
    · simp only [eW_y w3] at hq
      refine ⟨fun _ => ?_, fun h => absurd h (by decide +kernel)⟩
      exact s66 _ x y (RTw.of k3) (RYs.keep h2) hq
    · simp only [eW_n w3] at hq
      refine ⟨fun h => absurd rfl h, fun _ => ?_⟩
      refine hX _ _ _ _ _ _ _ ?_
      exact ⟨Or.inl rfl, hq.2 _ rfl _ (i + 3) rfl (RTw.of (σ := σ1) h1)⟩
  refine hX _ _ _ _ _ _ _ ?_
  refine c_tw_17 hT (fun w1 σ1 k1 => ?_) (fun w1 => ?_)
  · simp only [eW_y w1] at hq
    refine ⟨fun h => absurd h (by decide +kernel), fun _ => ?_⟩
    refine c_takeNumber (lo := nI 0) (hi := nI 9) (RTw.of (σ := σ) k1) (fun n2 σ2 k2 => ?_) (fun n2 => ?_)
    · have n2' : nB t n (nx t n (bg t n i)) (nI 0) (nI 9) = true := n2
      simp only [eN_y n2'] at hq
      obtain ⟨q2, -, hq2, e2⟩ := nB_val n2 (by omega) (by omega)
      refine hX _ _ _ _ _ _ _ ?_
      refine ⟨fun h => absurd (e2.symm.trans h) (oN_ne (by omega)), fun _ => ?_⟩
      refine c_takeNumber (lo := nI 0) (hi := nI 9) (RTw.of (σ := _) k2) (fun n3 σ3 k3 => ?_) (fun n3 => ?_)
      · have n3' : nB t n (nx t n (nx t n (bg t n i))) (nI 0) (nI 9) = true := n3
        simp only [eN_y n3'] at hq
        obtain ⟨q3, -, hq3, e3⟩ := nB_val n3 (by omega) (by omega)
        exact s46 _ _ _ q3 e3 hq3 (RTw.of k3) (RYs.keep (RYs.keep (RYs.keep hR))) hq
      · have n3' : ¬ nB t n (nx t n (nx t n (bg t n i))) (nI 0) (nI 9) = true := n3
        simp only [eN_n n3'] at hq
        exact b46 _ (i + 2) hq (RTw.of (σ := _) (RTw.of (σ := _) k2))
    · have n2' : ¬ nB t n (nx t n (bg t n i)) (nI 0) (nI 9) = true := n2
      simp only [eN_n n2'] at hq
      exact b26 _ (i + 1) hq (RTw.of (σ := _) (RTw.of (σ := σ) k1))
  · simp only [eW_n w1] at hq
    refine ⟨fun _ => ?_, fun h => absurd rfl h⟩
    refine hX _ _ _ _ _ _ _ ?_
    exact b26 _ i hq (RTw.of (σ := σ) hT)
end CYD
