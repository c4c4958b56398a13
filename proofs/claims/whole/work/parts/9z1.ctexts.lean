/-! THE CLASS: texts of the yard and of the law -/
theorem pLine_len {t : Nat → Int32} {n b b' : Nat} {s s' : List lLn} (hb : b ≤ n) (h : pLine t n b s = .inl (b', s')) : (cat s').length + b ≤ (cat s).length + b' ∧ b' ≤ n := by
  have hcat : ∀ l : lLn, (cat (s ++ [l])).length = (cat s).length + l.2.2.length := by
    intro l
    unfold cat
    rw [List.flatMap_append, List.length_append]
    simp
  unfold pLine at h
  split at h
  · cases h
  · rename_i k hk
    obtain ⟨w, h1, h2⟩ := pW_some hk
    have h3 : 0 < w.length := by
      simp only [List.mem_cons, Prod.mk.injEq, List.not_mem_nil, or_false] at h1
      rcases h1 with ⟨rfl, rfl⟩ | ⟨rfl, rfl⟩ | ⟨rfl, rfl⟩ <;> decide
    have hgt := nx_gt (t := t) (wB_lt h2 h3).1
    have hb2 := nx_le (t := t) hb
    split at h
    · rename_i hn
      have hgt2 := nx_gt (t := t) (nB_lt hn).1
      have hb3 := nx_le (t := t) hb2
      split at h
      · rename_i hw
        have hgt3 := nx_gt (t := t) (wB_lt hw (by decide)).1
        have hg := gd_some (gd_atom (t := t) (n := n) 6) (nx t n (nx t n (nx t n b))) (nx_le hb3) nx_sk
        split at h
        · rename_i b1 c1 e1
          obtain ⟨a1, a2, a3, a4, a5⟩ := hg.1 b1 c1 e1
          cases h
          rw [hcat]
          exact ⟨by show (cat s).length + c1.length + b ≤ _; omega, a2⟩
        · cases h
      · cases h
        rw [hcat]
        exact ⟨by show (cat s).length + 0 + b ≤ _; omega, hb3⟩
    · cases h
theorem pLs_len {t : Nat → Int32} {n : Nat} : ∀ f b (s s' : List lLn), b ≤ n → (cat s).length ≤ b → pLs t n (pLine t n) f b s = .inl s' → (cat s').length ≤ n
  | 0, b, s, s', _, _, h => by cases h
  | f + 1, b, s, s', hb, hs, h => by
    unfold pLs at h
    cases e : pLine t n b s with
    | inr x => rw [e] at h; cases h
    | inl x =>
      obtain ⟨b1, s1⟩ := x
      rw [e] at h
      obtain ⟨l1, l2⟩ := pLine_len hb e
      have h : (if b1 = n then (Sum.inl s1 : List lLn ⊕ Nat) else if sgB t n b1 59 = true then pLs t n (pLine t n) f (nx t n b1) s1 else .inr b1) = .inl s' := h
      split at h
      · cases h; omega
      · split at h
        · rename_i hsg
          have := nx_gt (t := t) (sgB_iff.mp hsg).1
          exact pLs_len f _ s1 s' (nx_le l2) (by omega) h
        · cases h
theorem pTx_len {t : Nat → Int32} {n : Nat} {ls : List lLn} (h : pTx t n (pLine t n) 12 (sk t n 0) [] = .inl ls) : (cat ls).length ≤ n := by
  unfold pTx at h
  split at h
  · cases h; exact Nat.zero_le _
  · exact pLs_len 12 _ [] ls (sk_le (Nat.zero_le _)) (Nat.zero_le _) h
/-- the tape is used up by a text; what is not told by it stays -/
def YF0 (σ σ' : mSg) : Prop := (∀ i, i ≠ 14 → σ' 0 i = σ 0 i) ∧ σ' 1 3 = nI 0 ∧ ∀ c, (5 ≤ c ∧ c < 14) ∨ (23 ≤ c ∧ c < 39) ∨ (46 ≤ c ∧ c ≠ 163) → σ' c = σ c
theorem rdr5 : ∀ c, c < 9 → mgl [(163, 1), (1, 4), (14, 9), (39, 7)] (mgl [(5, 9)] c) = 14 + c := by decide +kernel
theorem rdrb : ∀ c, c < 9 → mlo [(163, 1), (1, 4), (14, 9), (39, 7)] (14 + c) = some (5 + c) := by decide +kernel
theorem bkR {W f : mSg} {c : Nat} (h1 : c < 163 ∨ 164 ≤ c) (h2 : c < 1 ∨ 5 ≤ c) (h3 : c < 14 ∨ 23 ≤ c) (h4 : c < 39 ∨ 46 ≤ c) : mback [(163, 1), (1, 4), (14, 9), (39, 7)] W f c = W c := by
  unfold mback
  rw [mlo_skip (by omega), mlo_skip (by omega), mlo_skip (by omega), mlo_out (by omega)]
theorem bkRd {W f : mSg} {c : Nat} (h : c < 9) : mback [(163, 1), (1, 4), (14, 9), (39, 7)] W f (14 + c) = f (5 + c) := by
  unfold mback
  rw [rdrb c h]
section CTX
variable {d : Nat} {σ : mSg} {m : Nat → Int32} {Q : mPst} {n nc ns nd a tp : Nat} {row : Nat → Nat → Int32} {t : Nat → Int32}
/-- behind a clear -/
theorem clr {W : mSg} {c : Nat} (h : c < 1 ∨ 5 ≤ c) : mback [(1, 4)] W (mput (fun j => W (mgl [(1, 4)] j)) 0 3 (nI 0)) c = W c := mback_out (by omega)
set_option maxRecDepth 100000 in
theorem fg164 {W : mSg} {c : Nat} (hc : c ≠ 164) : mback [(164, 4)] W (mput (fun j => W (mgl [(164, 4)] j)) 0 3 (nI 0)) c = W c := by
  by_cases e : 164 ≤ c ∧ c < 168
  · rw [mback_in e, mput_ne (by omega)]
    show W (mgl [(164, 4)] (c - 164)) = W c
    rw [mgl_h (by omega)]
    congr 1; omega
  · exact mback_out (by omega)
set_option maxRecDepth 100000 in
theorem fg53 {W : mSg} {c : Nat} (hc : c ≠ 53) : mback [(53, 110)] W (mput (fun j => W (mgl [(53, 110)] j)) 0 1 (nI 0)) c = W c := by
  by_cases e : 53 ≤ c ∧ c < 163
  · rw [mback_in e, mput_ne (by omega)]
    show W (mgl [(53, 110)] (c - 53)) = W c
    rw [mgl_h (by omega)]
    congr 1; omega
  · exact mback_out (by omega)
set_option maxRecDepth 100000 in
set_option maxHeartbeats 4000000 in
theorem c_yyard (hB : BD m n nc ns nd) {x : Nat} (h0 : m 0 = nI x) (hx : x ≤ 12) (hR : RYs σ m) (hM : YM σ a row) (h3 : σ 1 3 = nI tp) (ht : tp ≤ 400) (hb : ∀ k, k < tp → σ 2 k = t k)
    (q1 : ∀ s', pTx t tp (yLine t tp) 14 (sk t tp 0) (0, m) = .inl s' → YI m s'.2 → x ≠ 12 → ∀ σ', RYs σ' (upd s'.2 0 (nI (x + 1))) → YM σ' 0 row → σ' 0 14 = -(nI 1) → (∀ i, i ≠ 14 → σ' 0 i = σ 0 i) → σ' 1 3 = nI 0 → σ' 164 3 = nI 0 → (∀ c, (23 ≤ c ∧ c < 39) ∨ (46 ≤ c ∧ c ≠ 163) → c ≠ 53 → c ≠ 164 → σ' c = σ c) → Q (.inl (some (.int (nI (x + 1))))) sh_9 σ')
    (q2 : ∀ s', pTx t tp (yLine t tp) 14 (sk t tp 0) (0, m) = .inl s' → x = 12 → ∀ σ', σ' 0 14 = -(nI 1) → YF0 σ σ' → Q (.inr 3) sh_9 σ')
    (q0 : ∀ e, pTx t tp (yLine t tp) 14 (sk t tp 0) (0, m) = .inr e → ∀ σ', σ' 0 14 = nI e → YF0 σ σ' → Q (.inr 0) sh_9 σ') : mD (d + 6) 3 [.ref 0] sh_9 σ Q := by
  have hb01 := hB.2.2.2.2.2.2.2.2.2.2.1
  refine ⟨rfl, fun X hX => ?_⟩
  have bad : ∀ (W : mSg) e, pTx t tp (yLine t tp) 14 (sk t tp 0) (0, m) = .inr e → W 0 = σ 0 → (∀ c, (5 ≤ c ∧ c < 14) ∨ (23 ≤ c ∧ c < 39) ∨ (46 ≤ c ∧ c ≠ 163) → W c = σ c) → X 38 [some (.ref 0), some (.int (nI 0))] [.int (nI e), .ref 0] sh_9 W 0 0 := by
    intro W e he w0 w1
    refine hX _ _ _ _ _ _ _ ?_
    refine c_clear ?_
    refine ⟨fun z => absurd rfl z, fun _ => ?_⟩
    refine q0 e he _ rfl ⟨fun i hi => ?_, rfl, fun c hc => ?_⟩
    · show upd (W 0) 14 (nI e) i = σ 0 i
      rw [upd_off hi, w0]
    · exact (clr (W := mput W 0 14 (nI e)) (by omega)).trans ((mput_ne (by omega)).trans (w1 c hc))
  have p84 : ∀ (W : mSg) (s' : Nat × (Nat → Int32)), pTx t tp (yLine t tp) 14 (sk t tp 0) (0, m) = .inl s' → YI m s'.2 → x ≠ 12 → RD W s'.2 → W 0 14 = -(nI 1) → (∀ i, i ≠ 14 → W 0 i = σ 0 i) → W 1 3 = nI 0 → (∀ c, (5 ≤ c ∧ c < 14) ∨ (23 ≤ c ∧ c < 39) ∨ (46 ≤ c ∧ c ≠ 163) → W c = σ c) → X 84 [some (.ref 0), none] [] sh_9 W 0 0 := by
    intro W s' he hI hx12 hD w13 w0 w3 w1
    obtain ⟨⟨n', nc', ns', nd', hB'⟩, hsame⟩ := hI
    have hb' := hB'.2.2.2.2.2.2.2.2.2.2.1
    have e0 : W 14 11 = nI x := (hD.g rf0.2.2.2.2.1).trans ((hsame 0 (by omega)).trans h0)
    have hD2 : RD (mput W 14 11 (W 14 11 + nI 1)) (upd s'.2 0 (nI (x + 1))) := by
      have := hD.put0 rf0.2.2.2.2.1 (W 14 11 + nI 1)
      rw [show W 14 11 + nI 1 = nI (x + 1) by rw [e0, nI_add]] at this ⊢
      exact this
    have hb2 : b01 (upd s'.2 0 (nI (x + 1)) 11) := by rw [upd_off (by omega)]; exact hb'
    have k2 : ∀ c, c ≠ 14 → mput W 14 11 (W 14 11 + nI 1) c = W c := fun c hc => mput_ne hc
    refine hX _ _ _ _ _ _ _ ?_
    generalize hW2 : mput W 14 11 (W 14 11 + nI 1) = W2 at hD2 k2
    have go : ∀ W3, W3 = W2 → RS (fun j => W3 (mgl [(5, 9), (14, 9)] (9 + j))) (upd s'.2 0 (nI (x + 1))) := by
      intro W3 hW3
      rw [hW3]
      exact RS.congr hD2 (fun c hc => congrArg W2 (mgl_99 (b1 := 5) (b2 := 14) hc))
    refine c_stateCopy hb2 (go _ hW2) (fun σ2 g1 g2 => ?_)
    have f1 : ∀ c, c < 5 ∨ 5 + 9 ≤ c → mback [(5, 9), (14, 9)] (mput W 14 11 (W 14 11 + nI 1)) σ2 c = mput W 14 11 (W 14 11 + nI 1) c := fun c h => bk2 g2 h
    rw [hW2] at f1
    have r2 : RYs (mback [(5, 9), (14, 9)] W2 σ2) (upd s'.2 0 (nI (x + 1))) := RS.congr g1 (fun c hc => by
      show mback [(5, 9), (14, 9)] W2 σ2 (mgl [(5, 9)] c) = σ2 c
      rw [mgl9 hc, bk1 hc])
    have f1' : ∀ c, c < 5 ∨ 5 + 9 ≤ c → c ≠ 14 → mback [(5, 9), (14, 9)] W2 σ2 c = W c := fun c h h2 => (f1 c h).trans (k2 c h2)
    subst hW2
    clear f1
    generalize hV : mback [(5, 9), (14, 9)] (mput W 14 11 (W 14 11 + nI 1)) σ2 = V at r2 f1'
    refine c_rforget rfl ?_
    refine c_mforget rfl ?_
    have f6 : ∀ c, c ≠ 53 → c ≠ 164 → mback [(53, 110)] (mback [(164, 4)] V (mput (fun j => V (mgl [(164, 4)] j)) 0 3 (nI 0))) (mput (fun j => (mback [(164, 4)] V (mput (fun j => V (mgl [(164, 4)] j)) 0 3 (nI 0))) (mgl [(53, 110)] j)) 0 1 (nI 0)) c = V c := fun c a b => (fg53 a).trans (fg164 b)
    obtain ⟨m1, m2, nx, m3, m4, m5⟩ := hM
    subst hV
    refine qi ?_ (q1 s' he ⟨⟨n', nc', ns', nd', hB'⟩, hsame⟩ hx12 _ (r2.cg (fun c a b => f6 c (by omega) (by omega))) ⟨rfl, by omega, nx, m3, ?_, fun j hj => absurd hj (by omega)⟩ ?_ (fun i hi => ?_) ?_ rfl (fun c hc a b => ?_))
    · have e5 := (r2.cg (fun c a b => f6 c (by omega) (by omega))).g rf0.2.2.2.2.1
      rw [upd_at] at e5
      exact e5.symm
    · exact (congrFun ((f1' 53 (by omega) (by omega)).trans (w1 53 (by omega))) 2).trans m4
    · exact (congrFun ((f6 0 (by omega) (by omega)).trans (f1' 0 (by omega) (by omega))) 14).trans w13
    · exact (congrFun ((f6 0 (by omega) (by omega)).trans (f1' 0 (by omega) (by omega))) i).trans (w0 i hi)
    · exact (congrFun ((f6 1 (by omega) (by omega)).trans (f1' 1 (by omega) (by omega))) 3).trans w3
    · exact (f6 c a b).trans ((f1' c (by omega) (by omega)).trans (w1 c (by omega)))
  have good : ∀ (W : mSg) (s' : Nat × (Nat → Int32)), pTx t tp (yLine t tp) 14 (sk t tp 0) (0, m) = .inl s' → YI m s'.2 → RD W s'.2 → W 0 = σ 0 → (∀ c, (5 ≤ c ∧ c < 14) ∨ (23 ≤ c ∧ c < 39) ∨ (46 ≤ c ∧ c ≠ 163) → W c = σ c) → X 38 [some (.ref 0), some (.int (nI 1))] [.int (-(nI 1)), .ref 0] sh_9 W 0 0 := by
    intro W s' he hI hD w0 w1
    have k1 : ∀ c, (5 ≤ c ∧ c < 14) ∨ (23 ≤ c ∧ c < 39) ∨ (46 ≤ c ∧ c ≠ 163) → mback [(1, 4)] (mput W 0 14 (-(nI 1))) (mput (fun j => (mput W 0 14 (-(nI 1))) (mgl [(1, 4)] j)) 0 3 (nI 0)) c = σ c := fun c hc => (clr (W := mput W 0 14 (-(nI 1))) (by omega)).trans ((mput_ne (by omega)).trans (w1 c hc))
    have k0 : ∀ i, i ≠ 14 → mback [(1, 4)] (mput W 0 14 (-(nI 1))) (mput (fun j => (mput W 0 14 (-(nI 1))) (mgl [(1, 4)] j)) 0 3 (nI 0)) 0 i = σ 0 i := by
      intro i hi
      show upd (W 0) 14 (-(nI 1)) i = σ 0 i
      rw [upd_off hi, w0]
    have hD1 : RD (mback [(1, 4)] (mput W 0 14 (-(nI 1))) (mput (fun j => (mput W 0 14 (-(nI 1))) (mgl [(1, 4)] j)) 0 3 (nI 0))) s'.2 := RS.congr hD (fun c hc => (clr (W := mput W 0 14 (-(nI 1))) (by omega)).trans (mput_ne (by omega)))
    have e5 : mback [(1, 4)] (mput W 0 14 (-(nI 1))) (mput (fun j => (mput W 0 14 (-(nI 1))) (mgl [(1, 4)] j)) 0 3 (nI 0)) 5 11 = nI x := (congrFun (k1 5 (by omega)) 11).trans ((hR.g rf0.2.2.2.2.1).trans h0)
    refine hX _ _ _ _ _ _ _ ?_
    refine c_clear ?_
    refine ⟨fun _ => ?_, fun z => absurd z (by decide +kernel)⟩
    refine hX _ _ _ _ _ _ _ ?_
    refine b_lt e5 (b := 12) rfl (by omega) (by omega) (fun h => ?_) (fun h => ?_)
    · exact p84 _ s' he hI (by omega) hD1 rfl k0 rfl k1
    · exact q2 s' he (by omega) _ rfl ⟨k0, rfl, k1⟩
  refine hX _ _ _ _ _ _ _ ?_
  refine c_stateCopy hb01 (dr1 hR) (fun σ2 g1 g2 => ?_)
  have f1 : ∀ c, c < 14 ∨ 14 + 9 ≤ c → mback [(14, 9), (5, 9)] σ σ2 c = σ c := fun c h => bk2 g2 h
  have r1 : RIy (0, m) 0 (fun j => mback [(14, 9), (5, 9)] σ σ2 (mgl [(163, 1), (1, 4), (14, 9), (39, 7)] j)) := RS.congr g1 (fun c hc => by
    show mback [(14, 9), (5, 9)] σ σ2 (mgl [(163, 1), (1, 4), (14, 9), (39, 7)] (mgl [(5, 9)] c)) = σ2 c
    rw [rdr5 c hc, bk1 hc])
  refine c_reads0 (t := t) (n := tp) (L := yLine t tp) (RI := RIy) (I := fun s => YI m s.2) (cnt := fun s => s.1) (s0 := (0, m)) RIy_keep c_readsYardLine gd_yline ⟨⟨n, nc, ns, nd, hB⟩, fun _ _ => rfl⟩ rfl ht ((congrFun (f1 1 (by omega)) 3).trans h3) (fun k hk => (congrFun (f1 2 (by omega)) k).trans (hb k hk)) r1 (fun s' he hI σ3 i b hT hRI => ?_) (fun e he σ3 i hi hT => ?_)
  · refine ⟨fun z => absurd z (by decide +kernel), fun _ => ?_⟩
    refine good _ s' he hI (RS.congr hRI (fun c hc => ?_)) ?_ (fun c hc => ?_)
    · show mback [(163, 1), (1, 4), (14, 9), (39, 7)] (mback [(14, 9), (5, 9)] σ σ2) σ3 (14 + c) = σ3 (mgl [(5, 9)] c)
      rw [bkRd hc, mgl9 hc]
    · exact (bkR (W := mback [(14, 9), (5, 9)] σ σ2) (f := σ3) (c := 0) (by omega) (by omega) (by omega) (by omega)).trans (f1 0 (by omega))
    · exact (bkR (W := mback [(14, 9), (5, 9)] σ σ2) (f := σ3) (c := c) (by omega) (by omega) (by omega) (by omega)).trans (f1 c (by omega))
  · refine ⟨fun _ => ?_, fun z => absurd rfl z⟩
    refine hX _ _ _ _ _ _ _ ?_
    refine c_wrongAt hT ?_
    rw [hi]
    have k1 : ∀ W, W = mback [(163, 1), (1, 4), (14, 9), (39, 7)] (mback [(14, 9), (5, 9)] σ σ2) σ3 → X 38 [some (.ref 0), some (.int (nI 0))] [.int (nI e), .ref 0] sh_9 W 0 0 := by
      intro W hW
      refine bad W e he ?_ (fun c hc => ?_)
      · rw [hW]
        exact (bkR (W := mback [(14, 9), (5, 9)] σ σ2) (f := σ3) (c := 0) (by omega) (by omega) (by omega) (by omega)).trans (f1 0 (by omega))
      · rw [hW]
        exact (bkR (W := mback [(14, 9), (5, 9)] σ σ2) (f := σ3) (c := c) (by omega) (by omega) (by omega) (by omega)).trans (f1 c (by omega))
    exact k1 _ same1
end CTX
section CTL
variable {d : Nat} {σ : mSg} {Q : mPst} {a tp : Nat} {row : Nat → Nat → Int32} {t : Nat → Int32}
theorem rdrl : ∀ c, c < 7 → mlo [(163, 1), (1, 4), (14, 9), (39, 7)] (39 + c) = some (14 + c) := by decide +kernel
set_option maxRecDepth 100000 in
set_option maxHeartbeats 4000000 in
theorem c_ylaw (hM : YM σ a row) (h3 : σ 1 3 = nI tp) (ht : tp ≤ 400) (hb : ∀ k, k < tp → σ 2 k = t k)
    (q1 : ∀ ls, pTx t tp (pLine t tp) 12 (sk t tp 0) [] = .inl ls → lOks ls → ls.length ≤ 12 → ∀ σ', Lw (fun j => σ' (mgl [(32, 7)] j)) (nI ls.length) ls → YM σ' 0 row → σ' 0 14 = -(nI 1) → (∀ i, i ≠ 14 → σ' 0 i = σ 0 i) → σ' 1 3 = nI 0 → (∀ c, (5 ≤ c ∧ c < 14) ∨ (23 ≤ c ∧ c < 32) ∨ (46 ≤ c ∧ c ≠ 163) → c ≠ 53 → σ' c = σ c) → Q (.inl (some (.int (nI ls.length)))) sh_9 σ')
    (q0 : ∀ e, pTx t tp (pLine t tp) 12 (sk t tp 0) [] = .inr e → ∀ σ', σ' 0 14 = nI e → YF0 σ σ' → Q (.inr 0) sh_9 σ') : mD (d + 28) 4 [.ref 0] sh_9 σ Q := by
  refine ⟨rfl, fun X hX => ?_⟩
  have bad : ∀ (W : mSg) e, pTx t tp (pLine t tp) 12 (sk t tp 0) [] = .inr e → W 0 = σ 0 → (∀ c, (5 ≤ c ∧ c < 14) ∨ (23 ≤ c ∧ c < 39) ∨ (46 ≤ c ∧ c ≠ 163) → W c = σ c) → X 34 [some (.ref 0), some (.int (nI 0))] [.int (nI e), .ref 0] sh_9 W 0 0 := by
    intro W e he w0 w1
    refine hX _ _ _ _ _ _ _ ?_
    refine c_clear ?_
    refine ⟨fun z => absurd rfl z, fun _ => ?_⟩
    refine q0 e he _ rfl ⟨fun i hi => ?_, rfl, fun c hc => ?_⟩
    · show upd (W 0) 14 (nI e) i = σ 0 i
      rw [upd_off hi, w0]
    · exact (clr (W := mput W 0 14 (nI e)) (by omega)).trans ((mput_ne (by omega)).trans (w1 c hc))
  have good : ∀ (W : mSg) (ls : List lLn), pTx t tp (pLine t tp) 12 (sk t tp 0) [] = .inl ls → lOks ls → LDr (fun j => W (mgl [(39, 7)] j)) ls [] → W 0 = σ 0 → (∀ c, (5 ≤ c ∧ c < 14) ∨ (23 ≤ c ∧ c < 39) ∨ (46 ≤ c ∧ c ≠ 163) → W c = σ c) → X 34 [some (.ref 0), some (.int (nI 1))] [.int (-(nI 1)), .ref 0] sh_9 W 0 0 := by
    intro W ls he hO hD w0 w1
    have hlen := pTx_len he
    have hL : Lw (fun j => W (mgl [(39, 7)] j)) (nI ls.length) ls := ⟨hD.1, hO, by omega, Or.inr hD⟩
    have k1 : ∀ c, (5 ≤ c ∧ c < 14) ∨ (23 ≤ c ∧ c < 39) ∨ (46 ≤ c ∧ c ≠ 163) → mback [(1, 4)] (mput W 0 14 (-(nI 1))) (mput (fun j => (mput W 0 14 (-(nI 1))) (mgl [(1, 4)] j)) 0 3 (nI 0)) c = σ c := fun c hc => (clr (W := mput W 0 14 (-(nI 1))) (by omega)).trans ((mput_ne (by omega)).trans (w1 c hc))
    have k0 : ∀ i, i ≠ 14 → mback [(1, 4)] (mput W 0 14 (-(nI 1))) (mput (fun j => (mput W 0 14 (-(nI 1))) (mgl [(1, 4)] j)) 0 3 (nI 0)) 0 i = σ 0 i := by
      intro i hi
      show upd (W 0) 14 (-(nI 1)) i = σ 0 i
      rw [upd_off hi, w0]
    have hL1 : Lw (fun j => mback [(1, 4)] (mput W 0 14 (-(nI 1))) (mput (fun j => (mput W 0 14 (-(nI 1))) (mgl [(1, 4)] j)) 0 3 (nI 0)) (mgl [(32, 7), (39, 7)] (mgl [(7, 7)] j))) (nI ls.length) ls := hL
    refine hX _ _ _ _ _ _ _ ?_
    refine c_clear ?_
    refine ⟨fun _ => ?_, fun z => absurd z (by decide +kernel)⟩
    refine hX _ _ _ _ _ _ _ ?_
    refine c_lawCopy hL1 (fun σ3 l1 l2 => ?_)
    generalize hV : mback [(1, 4)] (mput W 0 14 (-(nI 1))) (mput (fun j => (mput W 0 14 (-(nI 1))) (mgl [(1, 4)] j)) 0 3 (nI 0)) = V at k1 k0
    have e13 : V 0 14 = -(nI 1) := by rw [← hV]; rfl
    have e3 : V 1 3 = nI 0 := by rw [← hV]; rfl
    have f2 : ∀ c, c < 32 ∨ 32 + 7 ≤ c → mback [(32, 7), (39, 7)] V σ3 c = V c := by
      intro c h
      subst hV
      exact bk7 l2 h
    have l3 : Lw (fun j => mback [(32, 7), (39, 7)] V σ3 (mgl [(32, 7)] j)) (nI ls.length) ls := l1
    subst hV
    generalize hU : mback [(32, 7), (39, 7)] (mback [(1, 4)] (mput W 0 14 (-(nI 1))) (mput (fun j => (mput W 0 14 (-(nI 1))) (mgl [(1, 4)] j)) 0 3 (nI 0))) σ3 = U at f2 l3
    refine c_mforget rfl ?_
    obtain ⟨m1, m2, nx, m3, m4, m5⟩ := hM
    have hl12 : ls.length ≤ 12 := hD.2.1
    have f6 : ∀ c, c ≠ 53 → mback [(53, 110)] U (mput (fun j => U (mgl [(53, 110)] j)) 0 1 (nI 0)) c = U c := fun c a => fg53 a
    subst hU
    refine qi ?_ (q1 ls he hO hl12 _ ?_ ⟨rfl, by omega, nx, m3, ?_, fun j hj => absurd hj (by omega)⟩ ?_ (fun i hi => ?_) ?_ (fun c hc a => ?_))
    · exact l3.1.symm
    · exact l3
    · exact (congrFun ((f2 53 (by omega)).trans (k1 53 (by omega))) 2).trans m4
    · exact (congrFun ((f6 0 (by omega)).trans (f2 0 (by omega))) 14).trans e13
    · exact (congrFun ((f6 0 (by omega)).trans (f2 0 (by omega))) i).trans (k0 i hi)
    · exact (congrFun ((f6 1 (by omega)).trans (f2 1 (by omega))) 3).trans e3
    · exact (f6 c a).trans ((f2 c (by omega)).trans (k1 c (by omega)))
  refine hX _ _ _ _ _ _ _ ?_
  refine c_lawClear (fun σ2 hD => ?_)
  have f1 : ∀ c, c < 39 ∨ 39 + 7 ≤ c → mback [(39, 7)] σ σ2 c = σ c := fun c h => mback_out h
  have r1 : RIl [] 0 (fun j => mback [(39, 7)] σ σ2 (mgl [(163, 1), (1, 4), (14, 9), (39, 7)] j)) := ⟨hD, Nat.le_refl _⟩
  refine c_reads1 (σ := fun j => mback [(39, 7)] σ σ2 (mgl [(163, 1), (1, 4), (14, 9), (39, 7)] j)) (t := t) (n := tp) (L := pLine t tp) (RI := RIl) (I := lOks) (cnt := List.length) (s0 := []) RIl_keep c_readsLawLine gd_line (fun l hl => by cases hl) rfl ht ((congrFun (f1 1 (by omega)) 3).trans h3) (fun k hk => (congrFun (f1 2 (by omega)) k).trans (hb k hk)) r1 (fun ls he hO σ3 i b hT hRI => ?_) (fun e he σ3 i hi hT => ?_)
  · refine ⟨fun z => absurd z (by decide +kernel), fun _ => ?_⟩
    refine good _ ls he hO hRI.1 ?_ (fun c hc => ?_)
    · exact (bkR (f := σ3) (c := 0) (by omega) (by omega) (by omega) (by omega)).trans (f1 0 (by omega))
    · exact (bkR (f := σ3) (c := c) (by omega) (by omega) (by omega) (by omega)).trans (f1 c (by omega))
  · refine ⟨fun _ => ?_, fun z => absurd rfl z⟩
    refine hX _ _ _ _ _ _ _ ?_
    refine c_wrongAt hT ?_
    rw [hi]
    have k1 : ∀ W, W = mback [(163, 1), (1, 4), (14, 9), (39, 7)] (mback [(39, 7)] σ σ2) σ3 → X 34 [some (.ref 0), some (.int (nI 0))] [.int (nI e), .ref 0] sh_9 W 0 0 := by
      intro W hW
      refine bad W e he ?_ (fun c hc => ?_)
      · rw [hW]
        exact (bkR (f := σ3) (c := 0) (by omega) (by omega) (by omega) (by omega)).trans (f1 0 (by omega))
      · rw [hW]
        exact (bkR (f := σ3) (c := c) (by omega) (by omega) (by omega) (by omega)).trans (f1 c (by omega))
    exact k1 _ same1
end CTL
