/-! THE LAW'S STEPS -/
section LCS
variable {C : mCt} {mi : Nat → Nat × Nat × Nat} {msp : Nat → List mSh} {scr : Option (Nat × (Nat → Int32))} {mc ms : Nat} {rb : Bool} {J : mJt} {Q : mPst} {is : List mIt} {L : mLc} {st : List Value} {sh shl : List mSh} {σ : mSg} {c n len w a b z0 : Nat} {ps rg : List (Nat × Nat)} {as : List Value}
theorem lc_s (hm : msp a = shl) (hr : mrg sh (mtk b st).reverse = rg) (hk : mck rg sh shl = true) (hv : mrv rg (mtk b st).reverse = some as) (hb : (Nat.ble b st.length && Nat.ble (mcat (mdr b st)) 8) = true) (hc : c + (mi a).1 ≤ mc) (hn : n + (mi a).2.1 ≤ ms) (h : C a as shl (fun j => σ (mgl rg j)) (mloc shl (fun o σ2 => mend J Q ps L (c + (mi a).1) (n + (mi a).2.1) (fun v sh2 σ3 => bx C mi msp scr mc ms rb J Q is L (v ++ mdr b st) sh2 σ3 (c + (mi a).1) (n + (mi a).2.1)) o sh (mback rg σ σ2)))) : bx C mi msp scr mc ms rb J Q ((.invokestatic z0, len, w, a, b, 1, ps) :: is) L st sh σ c n := by
  subst hm
  subst hr
  rw [bu_invokestatic1, hk, hb, Nat.ble_eq_true_of_le hc, Nat.ble_eq_true_of_le hn, hv]
  exact h
theorem lc_r {x : Int32} {d : Nat} (h1 : c ≤ mc) (h2 : n ≤ ms) (hx : x = 0 ∨ x = 1) (hq : Q (.inl (some (.int x))) sh σ) : bx C mi msp scr mc ms true J Q ((.ireturn, len, w, a, b, d, ps) :: is) L [.int x] sh σ c n := by
  rw [bu_ireturn, Nat.ble_eq_true_of_le h1, Nat.ble_eq_true_of_le h2]
  exact ⟨hx, hq⟩
theorem lc_v (hm : msp a = shl) (hrc : mrc sh (mi a).2.2 (mtk b st).reverse = true) (hr : mrg sh (mtk b st).reverse = rg) (hk : mck rg sh shl = true) (hv : mrv rg (mtk b st).reverse = some as) (hb : (Nat.ble b st.length && Nat.ble (mcat (mdr b st)) 8) = true) (hc : c + (mi a).1 ≤ mc) (hn : n + (mi a).2.1 ≤ ms) (h : C a as shl (fun j => σ (mgl rg j)) (mloc shl (fun o σ2 => mend J Q ps L (c + (mi a).1) (n + (mi a).2.1) (fun v sh2 σ3 => bx C mi msp scr mc ms rb J Q is L (v ++ mdr b st) sh2 σ3 (c + (mi a).1) (n + (mi a).2.1)) o sh (mback rg σ σ2)))) : bx C mi msp scr mc ms rb J Q ((.invokevirtual z0, len, w, a, b, 1, ps) :: is) L st sh σ c n := by
  subst hm
  subst hr
  rw [bu_invokevirtual1, hrc, hk, hb, Nat.ble_eq_true_of_le hc, Nat.ble_eq_true_of_le hn, hv]
  exact h
end LCS
theorem nx_0 : ∃ q, mnx shL 0 = some (.inl (9, q)) := ⟨_, rfl⟩
theorem r1_0 : mrg1 shL 0 = [(0, 176)] := by decide +kernel
theorem r1_175 : mrg1 shL 176 = [(176, 14)] := by decide +kernel
theorem r1_189 : mrg1 shL 190 = [(190, 1)] := by decide +kernel
theorem rg_int (sh : List mSh) (r : List Value) : ∀ vs : List Int32, mrg sh (vs.map Value.int ++ r) = mrg sh r
  | [] => rfl
  | _ :: vs => rg_int sh r vs
theorem rv_int (rg : List (Nat × Nat)) (r : List Value) {r' : List Value} (h : mrv rg r = some r') : ∀ vs : List Int32, mrv rg (vs.map Value.int ++ r) = some (vs.map Value.int ++ r')
  | [] => h
  | v :: vs => by
    show (match mrv rg (vs.map Value.int ++ r) with | some l' => some (Value.int v :: l') | none => none) = _
    rw [rv_int rg r h vs]
    rfl
theorem rgH (vs : List Int32) : mrg shL (.ref 0 :: (vs.map Value.int ++ [.ref 190])) = [(0, 176), (190, 1)] := by
  show mrg1 shL 0 ++ mrg shL (vs.map Value.int ++ [.ref 190]) = _
  rw [rg_int]
  show mrg1 shL 0 ++ (mrg1 shL 190 ++ []) = _
  rw [r1_0, r1_189]
  rfl
theorem rgX (vs : List Int32) : mrg shL (.ref 0 :: vs.map Value.int) = [(0, 176)] := by
  show mrg1 shL 0 ++ mrg shL (vs.map Value.int) = _
  have := rg_int shL [] vs
  rw [List.append_nil] at this
  rw [this, r1_0]
  rfl
theorem rgM (vs : List Int32) : mrg shL (.ref 176 :: vs.map Value.int) = [(176, 14)] := by
  show mrg1 shL 176 ++ mrg shL (vs.map Value.int) = _
  have := rg_int shL [] vs
  rw [List.append_nil] at this
  rw [this, r1_175]
  rfl
theorem rvH (vs : List Int32) : mrv [(0, 176), (190, 1)] (.ref 0 :: (vs.map Value.int ++ [.ref 190])) = some (.ref 0 :: (vs.map Value.int ++ [.ref 176])) := by
  show (match mrv [(0, 176), (190, 1)] (vs.map Value.int ++ [.ref 190]) with | some l' => some (Value.ref 0 :: l') | none => none) = _
  rw [rv_int _ _ (r' := [.ref 176]) rfl vs]
theorem rvX (vs : List Int32) : mrv [(0, 176)] (.ref 0 :: vs.map Value.int) = some (.ref 0 :: vs.map Value.int) := by
  have := rv_int [(0, 176)] [] (r' := []) rfl vs
  rw [List.append_nil] at this
  show (match mrv [(0, 176)] (vs.map Value.int) with | some l' => some (Value.ref 0 :: l') | none => none) = _
  rw [this]
theorem rvM (vs : List Int32) : mrv [(176, 14)] (.ref 176 :: vs.map Value.int) = some (.ref 0 :: vs.map Value.int) := by
  have := rv_int [(176, 14)] [] (r' := []) rfl vs
  rw [List.append_nil] at this
  show (match mrv [(176, 14)] (vs.map Value.int) with | some l' => some (Value.ref 0 :: l') | none => none) = _
  rw [this]
theorem ckH : mck [(0, 176), (190, 1)] shL sh_9_J = true := by decide +kernel
theorem ckX : mck [(0, 176)] shL sh_9 = true := by decide +kernel
theorem ckM : mck [(176, 14)] shL sh_10 = true := by decide +kernel
theorem rc0 (vs : List Value) : mrc shL 9 (.ref 0 :: vs) = true := by
  show (match mnx shL 0 with | some (.inl (c, _)) => Nat.beq c 9 | _ => false) = true
  obtain ⟨q, e⟩ := nx_0
  rw [e]
  rfl
theorem nx_175 : ∃ q, mnx shL 176 = some (.inl (10, q)) := ⟨_, rfl⟩
theorem rc1 (vs : List Value) : mrc shL 10 (.ref 176 :: vs) = true := by
  show (match mnx shL 176 with | some (.inl (c, _)) => Nat.beq c 10 | _ => false) = true
  obtain ⟨q, e⟩ := nx_175
  rw [e]
  rfl
theorem pre9J : mpre sh_9_J sh_9_J = true := by decide +kernel
theorem pre10 : mpre sh_10 sh_10 = true := by decide +kernel
theorem b1 {c x k m : Nat} (h : c + k ≤ m) (e : x ≤ k) : c + x ≤ m := by omega
theorem b2 {c x y k m : Nat} (h : c + k ≤ m) (e : x + y ≤ k) : c + x + y ≤ m := by omega
theorem b3 {c x y z k m : Nat} (h : c + k ≤ m) (e : x + y + z ≤ k) : c + x + y + z ≤ m := by omega
theorem vI {i N : Nat} (hi : i + 6 ≤ N) (hN : N < 2 ^ 30) (k : Nat) (hk : k < 6) : vp_in (nI i + nI k) N := vin (k := i + k) (nI_add i k) (by omega) (by omega)
theorem IY.cg {σx σm σx' σm' : mSg} (h : IY σx σm) (e : ∀ c, c < 176 → σx' c = σx c) (em : ∀ c, c < 14 → σm' c = σm c) : IY σx' σm' := by
  obtain ⟨n, nc, ns, nd, ls, tp, B, x, hk, a, row, h⟩ := h
  have e0 := em 0 (by omega)
  exact h.q (th := σm 0 0) (fun c hc => e c (by omega)) ⟨em 1 (by omega), em 2 (by omega), em 4 (by omega), em 5 (by omega), by rw [e0], by rw [e0], by rw [e0], by rw [e0], by rw [e0], fun z => by rw [e0]; exact z⟩
/-- between the calls -/
def IV (W : mSg) : Prop := IY (fun j => W (mgl [(0, 176)] j)) (fun j => W (mgl [(176, 14)] j))
section IVS
variable {W σ' V σm' : mSg}
theorem gl0 {c : Nat} (h : c < 176) : mgl [(0, 176)] c = c := (mgl_h h).trans (Nat.zero_add c)
theorem gl0' {c : Nat} (h : c < 176) : mgl [(0, 176), (190, 1)] c = c := (mgl_h h).trans (Nat.zero_add c)
theorem gl1 {c : Nat} (h : c < 14) : mgl [(176, 14)] c = 176 + c := mgl_h h
theorem gl1' {c : Nat} (h : ¬ c < 14) : mgl [(176, 14)] c = 1000 + (c - 14) := by
  show (match Nat.blt c 14 with | true => 176 + c | false => 1000 + (c - 14)) = _
  cases e : Nat.blt c 14 with
  | true => exact absurd (Nat.ble_eq.mp e) h
  | false => rfl
theorem mbH : (fun j => mback [(0, 176), (190, 1)] W σ' (mgl [(176, 14)] j)) = fun j => W (mgl [(176, 14)] j) := by
  funext j
  by_cases h : j < 14
  · rw [gl1 h, mback_out2 (by omega) (by omega)]
  · rw [gl1' h, mback_out2 (by omega) (by omega)]
theorem mbX : (fun j => mback [(0, 176)] W σ' (mgl [(176, 14)] j)) = fun j => W (mgl [(176, 14)] j) := by
  funext j
  by_cases h : j < 14
  · rw [gl1 h, mback_out (by omega)]
  · rw [gl1' h, mback_out (by omega)]
theorem mbi2 {c : Nat} (h : c < 176) : mback [(0, 176), (190, 1)] W σ' c = σ' c := by
  unfold mback
  rw [mlo_hd (by omega)]
  rfl
theorem ivh (h : IV W) : IY (fun j => (fun j => W (mgl [(0, 176), (190, 1)] j)) (mgl [(0, 176)] j)) (fun j => W (mgl [(176, 14)] j)) := IY.cg h (fun c hc => by
  show W (mgl [(0, 176), (190, 1)] (mgl [(0, 176)] c)) = W (mgl [(0, 176)] c)
  rw [gl0 hc, gl0' hc]) (fun _ _ => rfl)
theorem ivf (hV : ∀ c, c < 176 → σ' c = V c) (h : IY V σm') : IV (mback [(176, 14)] (mback [(176, 14)] (mback [(0, 176), (190, 1)] W σ') σm') (fun j => mback [(176, 14)] (mback [(0, 176), (190, 1)] W σ') σm' (mgl [(176, 14)] j))) := by
  refine h.cg (fun c hc => ?_) (fun c hc => ?_)
  · show mback [(176, 14)] _ _ (mgl [(0, 176)] c) = _
    rw [gl0 hc, mback_out (by omega), mback_out (by omega), mbi2 hc, hV c hc]
  · show mback [(176, 14)] _ _ (mgl [(176, 14)] c) = _
    rw [gl1 hc, mback_in (by omega)]
    show mback [(176, 14)] _ _ (mgl [(176, 14)] (176 + c - 176)) = _
    rw [show 176 + c - 176 = c by omega, gl1 hc, mback_in (by omega), show 176 + c - 176 = c by omega]
theorem ivp (h : IY σ' σm') : IV (mback [(176, 14)] (mback [(176, 14)] (mback [(0, 176)] W σ') σm') (fun j => mback [(176, 14)] (mback [(0, 176)] W σ') σm' (mgl [(176, 14)] j))) := by
  refine h.cg (fun c hc => ?_) (fun c hc => ?_)
  · show mback [(176, 14)] _ _ (mgl [(0, 176)] c) = _
    rw [gl0 hc, mback_out (by omega), mback_out (by omega), mback_in (by omega)]
    rfl
  · show mback [(176, 14)] _ _ (mgl [(176, 14)] c) = _
    rw [gl1 hc, mback_in (by omega)]
    show mback [(176, 14)] _ _ (mgl [(176, 14)] (176 + c - 176)) = _
    rw [show 176 + c - 176 = c by omega, gl1 hc, mback_in (by omega), show 176 + c - 176 = c by omega]
theorem ivd (h : IY σ' σm') : IV (mback [(176, 14)] (mback [(0, 176)] W σ') σm') := by
  refine h.cg (fun c hc => ?_) (fun c hc => ?_)
  · show mback [(176, 14)] _ _ (mgl [(0, 176)] c) = _
    rw [gl0 hc, mback_out (by omega), mback_in (by omega)]
    rfl
  · show mback [(176, 14)] _ _ (mgl [(176, 14)] c) = _
    rw [gl1 hc, mback_in (by omega), show 176 + c - 176 = c by omega]
theorem o189 {Z : mSg} : mback [(176, 14)] (mback [(176, 14)] (mback [(0, 176), (190, 1)] W σ') σm') Z 190 = σ' 176 := by
  rw [mback_out (by omega), mback_out (by omega)]
  unfold mback
  rw [mlo_skip (by omega), mlo_hd (by omega)]
theorem lcq {Z : mSg} {b ans : Int32} (h : σ' 176 0 = ans) (e : b = ans) : lg_cmp (mback [(176, 14)] (mback [(176, 14)] (mback [(0, 176), (190, 1)] W σ') σm') Z 190 (nI 0).toNatClampNeg).toInt64 b.toInt64 = 0 := by
  rw [o189, show (nI 0).toNatClampNeg = 0 from by decide +kernel, h, e]
  unfold lg_cmp
  rw [if_neg (fun z => absurd z (by rw [gt_iff_lt, Int64.lt_iff_toInt_lt]; omega)), if_pos rfl]
theorem k00 {κ : Nat} (h : κ ≤ 2) (z : nI κ = 0) : κ = 0 := nIj (p := nI κ) (by omega) (by omega) rfl (z.trans (by decide +kernel))
theorem MOK.ap {jm κ : Nat} {as : List Value} {σm σm2 : mSg} {ans : Int32} {Qm : mPst} (h : MOK jm as σm κ ans V) (e : σm2 = σm) (k : ∀ σm' b, σm' 0 0 = nI κ → (κ = 0 → b = ans) → IY V σm' → Qm (.inl (some (.int b))) sh_10 σm') : mD 58 jm as sh_10 σm2 Qm := by
  subst e
  exact h Qm k
theorem MOKv.ap {jm κ : Nat} {as : List Value} {σm σm2 : mSg} {Qm : mPst} (h : MOKv jm as σm κ V) (e : σm2 = σm) (k : ∀ σm', σm' 0 0 = nI κ → IY V σm' → Qm (.inl none) sh_10 σm') : mD 58 jm as sh_10 σm2 Qm := by
  subst e
  exact h Qm k
theorem DM.ap {jm : Nat} {as : List Value} {σm σm2 : mSg} {ans : Int32} {Qm : mPst} (h : ∀ Qm : mPst, (∀ σm', IY V σm' → Qm (.inl (some (.int ans))) sh_10 σm') → mD 58 jm as sh_10 σm Qm) (e : σm2 = σm) (k : ∀ σm', IY V σm' → Qm (.inl (some (.int ans))) sh_10 σm') : mD 58 jm as sh_10 σm2 Qm := by
  subst e
  exact h Qm k
theorem DMv.ap {jm : Nat} {as : List Value} {σm σm2 : mSg} {Qm : mPst} (h : ∀ Qm : mPst, (∀ σm', IY V σm' → Qm (.inl none) sh_10 σm') → mD 58 jm as sh_10 σm Qm) (e : σm2 = σm) (k : ∀ σm', IY V σm' → Qm (.inl none) sh_10 σm') : mD 58 jm as sh_10 σm2 Qm := by
  subst e
  exact h Qm k
end IVS
/-- the law's blocks, run -/
abbrev LX (N : Nat) (f : Nat → Int32) (mc ms : Nat) (Q : mPst) (X : mJt) : Prop := ∀ (l : Nat) (L : mLc) (st : List Value) (sh2 : List mSh) (σ2 : mSg) (c n : Nat), bx (mD 58) mi msp (some (N, f)) mc ms true X Q (mlk bk_law l) L st sh2 σ2 c n → X l L st sh2 σ2 c n
abbrev lloc (i : Nat) : mLc := [some (.ref 1201), some (.ref 0), some (.ref 176), some (.ref 190), some (.int (nI i)), none, none]
abbrev LK (X : mJt) (i c n : Nat) : Prop := ∀ (W : mSg) (c' n' : Nat), IV W → c' ≤ c + 10 → n' ≤ n + 60 → X 3067 (lloc i) [] shL W c' n'
